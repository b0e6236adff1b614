/** Promises 10, 11, 12, 14 and 15: STEPS, and where they leave THE PAINTER. */
final class PlanBoundaries extends Boundaries {
    private static final int[] FAR = {LOWEST, -65536, 65536, HIGHEST};

    private static IntoTheCorner full() {
        return planned("r1*1;r1*1;", 1, 0, 2, 1, 1, 2, 2, 3, 1, 4, 2, 5, 1, 6, 2, 99);
    }

    // ---- promise 10

    void promise10_theYardIsNoRoom() {
        is(house("r1*1;").step(0, 0), -1);
    }

    void promise10_theLastRoomAndOneBeyond() {
        IntoTheCorner x = house("r1*1;r1*1;");
        is(x.step(2, 0), 1);
        is(x.step(3, 0), -1);
        is(yard().step(1, 0), -1);
        IntoTheCorner five = house("r1*1;r1*1;r1*1;r1*1;r1*1;");
        is(five.step(5, 0), 1);
        is(five.step(6, 0), -1);
    }

    void promise10_roomsBelowAndFar() {
        IntoTheCorner x = house("r1*1;");
        is(x.step(-1, 0), -1);
        for (int far : FAR) is("room " + far, x.step(far, 0), -1);
        is(x.count(3), 0);
    }

    void promise10_hourZeroIsTheLeast() {
        IntoTheCorner x = house("r1*1;");
        is(x.step(1, 0), 1);
        is(x.stepOf(0, 1), 0);
        is(x.step(1, -1), -4);
        is(x.step(1, LOWEST), -4);
        is(x.count(3), 1);
    }

    void promise10_hourNinetyNineIsTheMost() {
        IntoTheCorner x = house("r1*1;");
        is(x.step(1, 99), 1);
        is(x.stepOf(0, 1), 99);
        is(x.step(1, 100), -6);
        is(x.step(1, HIGHEST), -6);
        is(x.count(3), 1);
    }

    void promise10_theEighthIsTheLast() {
        IntoTheCorner x = full();
        is(x.count(3), 8);
        is(x.stepOf(7, 1), 99);
        is(x.step(1, 0), -6);
        is(x.count(3), 8);
        is(x.count(16), 1);
    }

    void promise10_nobodyGoesAheadOfAll() {
        IntoTheCorner x = full();
        is(x.step(3, -1), -1);
        is(x.step(3, 100), -1);
        is(x.step(0, 0), -1);
        is(x.count(11), 3);
        is(x.count(14) + x.count(16), 0);
    }

    void promise10_belowGoesAheadOfFull() {
        IntoTheCorner x = full();
        is(x.step(1, -1), -4);
        is(x.count(14), 1);
        is(x.count(16), 0);
    }

    void promise10_aboveAndFullAreOneRefusal() {
        IntoTheCorner x = full();
        is(x.step(1, 100), -6);
        is(x.count(16), 1);
    }

    void promise10_theSameStepTwice() {
        IntoTheCorner x = house("r1*1;");
        is(x.step(1, 5), 1);
        is(x.step(1, 5), 2);
    }

    void promise10_anHourAheadOfTheLastOne() {
        IntoTheCorner x = house("r1*1;");
        is(x.step(1, 5), 1);
        is(x.step(1, 4), 2);
        is(x.stepOf(0, 1), 5);
        is(x.stepOf(1, 1), 4);
    }

    void promise10_roomAgainOnceItIsCleared() {
        IntoTheCorner x = full();
        x.clear();
        is(x.step(1, 3), 1);
    }

    // ---- promise 11

    void promise11_noneIsThere() {
        is(yard().stepOf(0, 0), -1);
        is(house("r1*1;").stepOf(0, 1), -1);
    }

    void promise11_theFirstAndTheLast() {
        IntoTheCorner x = full();
        is(x.stepOf(0, 0), 1);
        is(x.stepOf(0, 1), 0);
        is(x.stepOf(7, 0), 2);
        is(x.stepOf(7, 1), 99);
    }

    void promise11_oneBeyondTheLast() {
        is(full().stepOf(8, 0), -1);
        is(planned("r1*1;", 1, 0).stepOf(1, 0), -1);
    }

    void promise11_belowAndFar() {
        IntoTheCorner x = full();
        is(x.stepOf(-1, 0), -1);
        for (int far : FAR) is("i " + far, x.stepOf(far, 0), -1);
        is(x.count(11), 5);
    }

    void promise11_whatBelowAndAbove() {
        IntoTheCorner x = full();
        is(x.stepOf(0, -1), -2);
        is(x.stepOf(0, 2), -2);
        for (int far : FAR) is("what " + far, x.stepOf(7, far), -2);
        is(x.count(12), 6);
    }

    void promise11_nobodyGoesAheadOfOther() {
        IntoTheCorner x = full();
        is(x.stepOf(8, 2), -1);
        is(x.stepOf(-1, -1), -1);
        is(x.count(11), 2);
        is(x.count(12), 0);
    }

    void promise11_whatWasClearedIsNotThere() {
        IntoTheCorner x = full();
        x.clear();
        is(x.stepOf(0, 0), -1);
        x.step(2, 8);
        is(x.stepOf(0, 0), 2);
        is(x.stepOf(1, 0), -1);
    }

    // ---- promise 12

    void promise12_none() {
        IntoTheCorner x = yard();
        is(x.clear(), 0);
        is(x.clear(), 0);
        is(allRefusals(x), 0);
    }

    void promise12_one() {
        IntoTheCorner x = planned("r1*1;", 1, 0);
        is(x.clear(), 1);
        is(x.clear(), 0);
    }

    void promise12_eight() {
        IntoTheCorner x = full();
        is(x.clear(), 8);
        is(x.count(3), 0);
        is(x.done(), -9);
        is(x.where(0), 0);
        is(x.where(1), -1);
        is(x.free(0), 7);
    }

    // ---- promise 14

    void promise14_none() {
        IntoTheCorner x = house("r1*1;");
        is(x.done(), -9);
        is(allRefusals(x), 0);
    }

    void promise14_atHourZero() {
        is(planned("r1*1;", 1, 0).done(), 1);
        is(planned("r9*1;", 1, 0).done(), 9);
    }

    void promise14_beyondTheLastHour() {
        is(planned("r1*1;", 1, 98).done(), 99);
        is(planned("r1*1;", 1, 99).done(), 100);
        is(planned("r9*1;", 1, 99).done(), 108);
    }

    void promise14_theLastInTheRowNotTheLatest() {
        is(planned("r9*1;r2*1;", 1, 50, 2, 3).done(), 5);
    }

    void promise14_theEighth() {
        is(full().done(), 100);
    }

    // ---- promise 15

    void promise15_behindNoneHeIsInTheYard() {
        is(yard().where(0), 0);
        is(full().where(0), 0);
    }

    void promise15_behindAllSteps() {
        IntoTheCorner x = planned("r1*1;r1*1;d01;d12;", 2, 0);
        is(x.where(1), 1);
        is(x.where(2), -1);
        is(full().where(8), 2);
        is(full().where(9), -1);
    }

    void promise15_belowAndFar() {
        IntoTheCorner x = full();
        is(x.where(-1), -1);
        for (int far : FAR) is("i " + far, x.where(far), -1);
        is(x.count(11), 5);
    }

    void promise15_theLeastRoomBeside() {
        is("the yard", planned("r1*1;r1*1;r1*1;d30;d31;d32;", 3, 0).where(1), 0);
        is("room 1", planned("r1*1;r1*1;r1*1;d10;d32;d31;", 3, 0).where(1), 1);
        is("room 5", planned("r1*1;r1*1;r1*1;r1*1;r1*1;d05;d45;", 4, 0).where(1), 5);
    }

    void promise15_notIntoAShutOneButTheNext() {
        IntoTheCorner x = planned("r2*1;r1*1;r1*1;d01;d02;d13;d23;", 1, 0, 3, 2);
        is(x.where(2), 2);
    }

    void promise15_withoutADoorHeStays() {
        is(planned("r1*1;", 1, 0).where(1), 1);
    }

    void promise15_besideOneThatIsWetForTheLastHour() {
        // Room 1 is done at 1, WET from 1 to 6, TACKY from 7. Room 2 has no other door.
        is("done at 6", planned("r1*1;r1*1;d01;d12;", 1, 0, 2, 5).where(2), 2);
        is("done at 7", planned("r1*1;r1*1;d01;d12;", 1, 0, 2, 6).where(2), 1);
    }

    void promise15_besideOneThatIsPaintedForTheLastHour() {
        IntoTheCorner x = planned("r4*1;r1*1;d01;d12;", 1, 0, 2, 2);
        x.planks(2);
        is("done at 3", x.where(2), 2);
        x.clear();
        x.step(1, 0);
        x.step(2, 3);
        is("done at 4", x.where(2), 1);
    }

    void promise15_besideOneWhoseCoatBeginsJustThen() {
        is("begins at 5, done at 5", planned("r1*1;r1*1;d01;d12;", 1, 5, 2, 4).where(2), 2);
        is("begins at 6, done at 5", planned("r1*1;r1*1;d01;d12;", 1, 6, 2, 4).where(2), 1);
    }

    void promise15_stepsBehindItDoNotMatter() {
        IntoTheCorner x = planned("r1*1;r1*1;d01;d12;", 2, 0, 1, 1);
        is(x.where(1), 1);
        is(x.where(2), 0);
    }

    void promise15_stepsAheadOfTheOneAheadMatter() {
        IntoTheCorner x = planned("r1*1;r1*1;r1*1;d01;d12;d03;", 1, 0, 3, 1, 2, 5);
        is(x.where(2), 0);
        is(x.where(3), 2);
    }

    void promise15_beyondTheLastHour() {
        // Room 2 is done at 108: room 1 is WET until 107 with WET 9, until 108 with WET 10.
        IntoTheCorner x = planned("r1*1;r9*1;d01;d12;", 1, 98, 2, 99);
        x.set(0, 9);
        is(x.where(2), 1);
        x.set(0, 10);
        is(x.where(2), 2);
    }

    void promise15_noWayToTheRoomDoesNotMatter() {
        is(planned("r1*1;r1*1;d12;", 2, 0).where(1), 1);
    }
}
