/** Promises 18, 19 and 20: CUTS, WAY and FREE. */
final class WayBoundaries extends Boundaries {
    private static final int[] FAR = {LOWEST, -65536, 65536, HIGHEST};
    private static final String LINE = "r2*1;r1*1;d01;d12;";

    // ---- promise 18

    void promise18_noRooms() {
        is(yard().cuts(), 0);
    }

    void promise18_noNeeds() {
        is(house(LINE).cuts(), 0);
    }

    void promise18_oneEndOfItItself() {
        is(house("r1*1;d01;n01@1-1;").cuts(), 2);
        is(house("r1*1;d01;n10@1-1;").cuts(), 2);
        is(house("r1*1;r1*1;d01;d02;d12;n12@1-1;").cuts(), 6);
    }

    void promise18_between() {
        is(house(LINE + "n02@1-1;").cuts(), 6);
        is(house(LINE + "n20@1-1;").cuts(), 6);
        is(house(LINE + "n01@1-1;").cuts(), 2);
    }

    void promise18_endsThatHaveNoWayAtAll() {
        is(house("r1*1;r1*1;r1*1;d03;n01@1-1;").cuts(), 14);
        is(house("r1*1;r1*1;r1*1;r1*1;r1*1;n01@1-1;").cuts(), 62);
    }

    void promise18_anotherWayIsEnough() {
        is(house("r1*1;r1*1;r1*1;d01;d02;d13;d23;n03@1-1;").cuts(), 8);
    }

    void promise18_theYardIsNoCut() {
        is(house("r1*1;r1*1;d01;d02;n12@1-1;").cuts(), 6);
    }

    void promise18_theLastRoomAndTheLastNeed() {
        IntoTheCorner x = house("r1*1;r1*1;r1*1;r1*1;r1*1;d01;d05;", "n01@0-0;n01@0-0;n01@0-0;n01@0-0;n01@0-0;",
            "n01@0-0;n01@0-0;n05@0-0;");
        is(x.cuts(), 34);
    }

    void promise18_hoursPlanAndPlanksDoNotMatter() {
        IntoTheCorner x = planned("r1*1;r1*1;d01;d02;n01@99-99;", 2, 0, 1, 50);
        x.planks(6);
        is(x.cuts(), 2);
    }

    void promise18_aDoorThatComesLater() {
        IntoTheCorner x = house(LINE + "n02@1-1;");
        Due.house(x, "d02;");
        is(x.cuts(), 4);
    }

    // ---- promise 19

    void promise19_theYardToItself() {
        is(yard().way(0, 0, 0), 0);
        is(yard().way(0, 0, 99), 0);
    }

    void promise19_aRoomToItself() {
        IntoTheCorner x = planned("r1*1;", 1, 5);
        is(x.way(1, 1, 4), 0);
        is("PAINTED, both ends must be open", x.way(1, 1, 5), -9);
        is("WET at last", x.way(1, 1, 11), -9);
        is("TACKY", x.way(1, 1, 12), 0);
    }

    void promise19_oneDoorAndFive() {
        IntoTheCorner x = house("r1*1;r1*1;r1*1;r1*1;r1*1;d01;d12;d23;d34;d45;");
        for (int to = 0; to <= 5; to++) {
            is("to " + to, x.way(0, to, 0), to);
            is("back from " + to, x.way(to, 0, 0), to);
        }
    }

    void promise19_theFewestDoors() {
        IntoTheCorner x = house("r1*1;r1*1;r1*1;r1*1;d01;d12;d23;d34;d03;");
        is(x.way(0, 4, 0), 2);
        is(x.way(0, 2, 0), 2);
    }

    void promise19_noDoor() {
        IntoTheCorner x = house("r1*1;");
        is(x.way(0, 1, 0), -9);
        is(x.way(1, 0, 0), -9);
        is(allRefusals(x), 0);
    }

    void promise19_fromTheFirstShutHourToTheLast() {
        IntoTheCorner x = planned(LINE, 1, 20);
        is("ahead of it", x.way(0, 2, 19), 2);
        for (int hour = 20; hour <= 27; hour++) is("at " + hour, x.way(0, 2, hour), -9);
        is("TACKY", x.way(0, 2, 28), 2);
    }

    void promise19_aShutEnd() {
        IntoTheCorner x = planned(LINE, 2, 20);
        is("to", x.way(1, 2, 20), -9);
        is("from", x.way(2, 1, 20), -9);
        is("beside", x.way(0, 1, 20), 1);
    }

    void promise19_planksFromTheFirstWetHour() {
        IntoTheCorner x = planned(LINE, 1, 20);
        x.planks(2);
        is("PAINTED at last", x.way(0, 2, 21), -9);
        is("WET at first", x.way(0, 2, 22), 2);
        is("an end, too", x.way(0, 1, 22), 1);
    }

    void promise19_hourZeroAndNinetyNine() {
        IntoTheCorner x = planned(LINE, 1, 0, 2, 99);
        is(x.way(0, 1, 0), -9);
        is(x.way(0, 2, 99), -9);
        is(x.way(0, 1, 99), 1);
    }

    void promise19_hoursBelowAndAbove() {
        IntoTheCorner x = house(LINE);
        is(x.way(0, 1, -1), -4);
        is(x.way(0, 1, LOWEST), -4);
        is(x.way(0, 1, 100), -6);
        is(x.way(0, 1, HIGHEST), -6);
        is(x.count(14), 2);
        is(x.count(16), 2);
    }

    void promise19_oneBeyondTheLastRoomOnEitherSide() {
        IntoTheCorner x = house(LINE);
        is(x.way(0, 2, 0), 2);
        is(x.way(0, 3, 0), -1);
        is(x.way(3, 0, 0), -1);
        is(x.way(3, 3, 0), -1);
        is(x.count(11), 3);
        IntoTheCorner five = house("r1*1;r1*1;r1*1;r1*1;r1*1;d05;");
        is(five.way(0, 5, 0), 1);
        is(five.way(0, 6, 0), -1);
        is(five.way(6, 0, 0), -1);
    }

    void promise19_roomsBelowAndFarOnEitherSide() {
        IntoTheCorner x = house(LINE);
        is(x.way(-1, 0, 0), -1);
        is(x.way(0, -1, 0), -1);
        for (int far : FAR) {
            is("from " + far, x.way(far, 0, 0), -1);
            is("to " + far, x.way(0, far, 0), -1);
        }
        is(x.way(32, 0, 0), -1);
        is(x.way(0, 32, 0), -1);
    }

    void promise19_nobodyGoesAheadOfTheHour() {
        IntoTheCorner x = house(LINE);
        is(x.way(3, 0, -1), -1);
        is(x.way(0, 3, 100), -1);
        is(x.way(-1, -1, LOWEST), -1);
        is(x.count(11), 3);
        is(x.count(14) + x.count(16), 0);
    }

    // ---- promise 20

    void promise20_theYardAlone() {
        is(yard().free(0), 1);
        is(yard().free(99), 1);
    }

    void promise20_allRooms() {
        is(house("r1*1;r1*1;r1*1;r1*1;r1*1;").free(0), 63);
    }

    void promise20_allRoomsAreShut() {
        IntoTheCorner x = planned("r9*1;r9*1;r9*1;r9*1;r9*1;", 1, 0, 2, 0, 3, 0, 4, 0, 5, 0);
        is(x.free(0), 1);
        is(x.free(14), 1);
        is(x.free(15), 63);
    }

    void promise20_fromTheFirstShutHourToTheLast() {
        // Two hours of work from 20, WET from 22 to 27, TACKY at 28 and 29.
        IntoTheCorner x = planned("r2*1;", 1, 20);
        is("ahead of it", x.free(19), 3);
        for (int hour = 20; hour <= 27; hour++) is("at " + hour, x.free(hour), 1);
        is("TACKY", x.free(28), 3);
        is("TACKY at last", x.free(29), 3);
        is("dry", x.free(30), 3);
    }

    void promise20_withPlanksOnlyWhilePainted() {
        IntoTheCorner x = planned("r2*1;", 1, 20);
        x.planks(2);
        is("PAINTED at first", x.free(20), 1);
        is("PAINTED at last", x.free(21), 1);
        is("WET at first", x.free(22), 3);
        is("WET at last", x.free(27), 3);
    }

    void promise20_twoCoatsThatOverlap() {
        IntoTheCorner x = planned("r2*2;", 1, 20, 1, 24);
        is("by the second", x.free(28), 1);
        is("by the second at last", x.free(31), 1);
        is("open", x.free(32), 3);
        x.planks(2);
        is("WET by the first, not yet PAINTED by the second", x.free(23), 3);
        is("PAINTED by the second", x.free(24), 1);
    }

    void promise20_hourZeroAndNinetyNine() {
        IntoTheCorner x = planned("r1*1;r1*1;", 1, 0, 2, 99);
        is(x.free(0), 5);
        is(x.free(99), 3);
        is(x.free(98), 7);
    }

    void promise20_hoursBelowAndAbove() {
        IntoTheCorner x = yard();
        is(x.free(-1), -4);
        is(x.free(LOWEST), -4);
        is(x.free(100), -6);
        is(x.free(HIGHEST), -6);
        is(x.count(14), 2);
        is(x.count(16), 2);
    }

    void promise20_byTheEighthStep() {
        IntoTheCorner x = planned("r1*1;r1*1;", 1, 0, 1, 0, 1, 0, 1, 0, 1, 0, 1, 0, 1, 0, 2, 50);
        is(x.free(50), 3);
        is(x.free(0), 5);
    }
}
