/** Promises 16 and 17: SOONEST and FEWEST PLANKS. */
final class OrderBoundaries extends Boundaries {
    /** A house in which paint is WET for an hour and never TACKY, as short as can be. */
    private static IntoTheCorner quick(String... house) {
        IntoTheCorner x = house(house);
        x.set(0, 1);
        x.set(1, 0);
        return x;
    }

    private void planIs(IntoTheCorner x, int... roomsAndHours) {
        is("steps", x.count(3), roomsAndHours.length / 2);
        for (int i = 0; i < roomsAndHours.length; i += 2) {
            is("room of " + i / 2, x.stepOf(i / 2, 0), roomsAndHours[i]);
            is("hour of " + i / 2, x.stepOf(i / 2, 1), roomsAndHours[i + 1]);
        }
    }

    // ---- promise 16: what it refuses

    void promise16_noRooms() {
        IntoTheCorner x = yard();
        is(x.soonest(), -3);
        is(x.count(13), 1);
    }

    void promise16_sixCoats() {
        is(house("r1*2;r1*2;r1*2;d01;d02;d03;").soonest(), 12);
        is(house("r1*2;r1*1;r1*1;r1*1;r1*1;d01;d02;d03;d04;d05;").soonest(), 10);
    }

    void promise16_sevenCoatsAndMore() {
        IntoTheCorner x = house("r1*2;r1*2;r1*2;r1*1;d01;d02;d03;d04;");
        is(x.soonest(), -6);
        Due.house(x, "r1*2;");
        is(x.soonest(), -6);
        is(x.count(16), 2);
        is(house("r1*2;r1*2;r1*2;r1*2;r1*2;").soonest(), -6);
    }

    void promise16_noneIsNoRefusal() {
        IntoTheCorner x = house("r1*1;");
        is(x.soonest(), -9);
        is(allRefusals(x), 0);
    }

    // ---- promise 16: hours

    void promise16_hourZeroIsTheLeast() {
        IntoTheCorner x = house("r1*1;d01;");
        is(x.soonest(), 1);
        planIs(x, 1, 0);
    }

    void promise16_hourSixtyIsTheLast() {
        IntoTheCorner x = house("r9*1;d01;n01@0-59;");
        is(x.soonest(), 69);
        planIs(x, 1, 60);
        is(house("r9*1;d01;n01@0-60;").soonest(), -9);
    }

    void promise16_hourSixtyIsTheLastOfASecondCoatToo() {
        // Dry 57 hours behind its begin.
        String[] houses = {"r9*2;d01;n01@0-2;", "r9*2;d01;n01@0-3;"};
        int[] done = {69, -9};
        for (int i = 0; i < 2; i++) {
            IntoTheCorner x = house(houses[i]);
            x.set(0, 24);
            x.set(1, 24);
            is(houses[i], x.soonest(), done[i]);
        }
    }

    void promise16_hourSixtyIsTheLastBehindAnotherRoomToo() {
        IntoTheCorner x = house("r9*1;r1*1;d01;d02;n01@0-50;n02@0-59;");
        is(x.soonest(), 61);
        planIs(x, 1, 51, 2, 60);
        is(house("r9*1;r9*1;d01;d02;n01@0-52;n02@0-52;").soonest(), -9);
    }

    void promise16_aNeedAtTheLastShutHourThereCanBe() {
        String[] last = {"92-92", "93-93", "93-99"};
        int[] done = {-9, 69, 69};
        for (int i = 0; i < last.length; i++) {
            IntoTheCorner x = house("r9*1;d01;n01@0-59;n01@" + last[i] + ";");
            x.set(0, 24);
            is(last[i], x.soonest(), done[i]);
        }
    }

    void promise16_aNeedAtHourZero() {
        is(house("r1*1;d01;n01@0-0;").soonest(), 2);
    }

    void promise16_aNeedJustBehindTheShutHours() {
        // SHUT from 0 to 6.
        is(house("r1*1;d01;n01@7-7;").soonest(), 1);
        is(house("r1*1;d01;n01@6-6;").soonest(), 8);
        is(house("r1*1;d01;n01@6-9;").soonest(), 11);
    }

    void promise16_aGapBetweenNeedsThatIsJustLongEnough() {
        is(house("r1*1;d01;n01@0-9;n01@17-99;").soonest(), 11);
        is(house("r1*1;d01;n01@0-9;n01@16-99;").soonest(), -9);
    }

    void promise16_withPlanksTheGapIsTheWorkAlone() {
        IntoTheCorner x = house("r2*1;d01;n01@0-9;n01@12-99;");
        is(x.soonest(), -9);
        x.planks(2);
        is(x.soonest(), 12);
        planIs(x, 1, 10);
        IntoTheCorner y = house("r2*1;d01;n01@0-9;n01@11-99;");
        y.planks(2);
        is(y.soonest(), -9);
    }

    void promise16_aNeedThatFailsAnyhow() {
        is(house("r1*1;r1*1;d01;d02;n12@99-99;").soonest(), 2);
        is(house("r1*1;r1*1;d01;n02@99-99;").soonest(), -9);
        is("a ROOM without door is in no NEED", house("r1*1;r1*1;d01;n01@99-99;").soonest(), -9);
    }

    void promise16_theSecondCoatOnceItIsDry() {
        IntoTheCorner x = house("r2*2;d01;");
        is(x.soonest(), 12);
        planIs(x, 1, 0, 1, 10);
        x.set(1, 0);
        is(x.soonest(), 10);
        planIs(x, 1, 0, 1, 8);
    }

    void promise16_planksMakeItNoSoonerDry() {
        IntoTheCorner x = house("r2*2;d01;");
        x.planks(2);
        is(x.soonest(), 12);
    }

    void promise16_justLateIsNotTooLate() {
        IntoTheCorner x = house("r2*2;d01;");
        x.set(2, 8);
        is(x.soonest(), 12);
        x.set(2, 7);
        is(x.soonest(), -9);
    }

    void promise16_eachAtItsLeastHourThoughALaterOneWouldDo() {
        // The first coat at 0 is dry at 2, when the NEED bars the second; at 3 that is too LATE.
        IntoTheCorner x = quick("r1*2;d01;n01@2-2;");
        x.set(2, 1);
        is(x.soonest(), -9);
        x.set(2, 2);
        is(x.soonest(), 4);
        planIs(x, 1, 0, 1, 3);
    }

    // ---- promise 16: orders

    void promise16_ofSeveralTheFirstByRooms() {
        IntoTheCorner x = house("r2*1;r2*1;r2*1;d01;d02;d03;");
        is(x.soonest(), 6);
        planIs(x, 1, 0, 2, 2, 3, 4);
    }

    void promise16_ofSeveralTheFirstByRoomsWithCoats() {
        // 1 2 3 1 and 1 3 2 1 are both done when all the work is, at 10; the others must wait for room 1 to be dry.
        IntoTheCorner x = house("r1*2;r4*1;r4*1;d01;d02;d03;");
        is(x.soonest(), 10);
        planIs(x, 1, 0, 2, 1, 3, 5, 1, 9);
    }

    void promise16_soonerGoesAheadOfFirst() {
        IntoTheCorner x = house("r2*1;r2*1;d01;d12;");
        is(x.soonest(), 4);
        planIs(x, 2, 0, 1, 2);
    }

    void promise16_heMustComeThereAndOut() {
        is("no way to room 2", house("r1*1;r1*1;d01;").soonest(), -9);
        is("no door at all", house("r1*1;").soonest(), -9);
        is("a way by the last ROOM", house("r1*1;r1*1;d02;d21;").soonest(), 2);
    }

    void promise16_heWaitsUntilHeIsNotShutIn() {
        // The yard, 3, 2, 1. Behind room 2 he is in room 1, whose only way out is WET until 7: so he is done at 8.
        IntoTheCorner x = house("r3*1;r2*1;r1*1;d03;d32;d21;n02@8-8;");
        is(x.soonest(), 10);
        planIs(x, 2, 0, 1, 5, 3, 9);
    }

    void promise16_heWaitsUntilHeCanComeThere() {
        // Room 1 must be dry by 7: so it goes first, and room 2 waits until it may be walked.
        IntoTheCorner x = house("r1*1;r1*1;d01;d12;n01@7-60;");
        is(x.soonest(), 8);
        planIs(x, 1, 0, 2, 7);
    }

    void promise16_whatIsShutIsByAllStepsSoFar() {
        // Room 3 between them shuts its own hours, and room 1 is WET all the same.
        IntoTheCorner x = house("r1*1;r1*1;r1*1;d01;d12;d03;n01@7-60;");
        is(x.soonest(), 8);
        planIs(x, 1, 0, 3, 1, 2, 7);
    }

    void promise16_needsAreLookedAtByAllStepsSoFar() {
        // To room 4 one comes by 1 or by 3: until 20 one of them must be open, whatever room 2 is.
        IntoTheCorner x = house("r1*1;r1*1;r1*1;r1*1;d01;d02;d03;d14;d34;", "n04@0-20;");
        is(x.soonest(), 22);
        planIs(x, 1, 0, 2, 1, 3, 7, 4, 21);
    }

    void promise16_itTakesThePlaceOfALongerPlan() {
        IntoTheCorner x = planned("r1*1;d01;", 1, 9, 1, 9, 1, 9, 1, 9, 1, 9, 1, 9, 1, 9, 1, 9);
        is(x.soonest(), 1);
        planIs(x, 1, 0);
        is(x.stepOf(1, 0), -1);
        is(x.step(1, 50), 2);
    }

    void promise16_noneLeavesThePlan() {
        IntoTheCorner x = planned("r1*1;r1*1;d01;", 2, 7, 1, 8);
        is(x.soonest(), -9);
        planIs(x, 2, 7, 1, 8);
    }

    void promise16_thePlanThereIsDoesNotMatter() {
        IntoTheCorner x = planned("r1*1;d01;", 1, 0);
        is(x.soonest(), 1);
        is(x.soonest(), 1);
        planIs(x, 1, 0);
    }

    void promise16_moreHands() {
        IntoTheCorner x = house("r9*1;d01;");
        is(x.soonest(), 9);
        x.set(3, 2);
        is(x.soonest(), 5);
        x.set(3, 3);
        is(x.soonest(), 3);
    }

    // ---- promise 17

    void promise17_noRoomsGoesAheadOfAll() {
        IntoTheCorner x = yard();
        is(x.fewest(5), -3);
        is(x.fewest(-1), -3);
        is(x.fewest(100), -3);
        is(x.count(13), 3);
        is(x.count(14) + x.count(16), 0);
    }

    void promise17_hourZeroIsTheLeast() {
        IntoTheCorner x = house("r1*1;d01;");
        is(x.fewest(0), -9);
        is(x.fewest(-1), -4);
        is(x.fewest(LOWEST), -4);
        is(x.count(14), 2);
    }

    void promise17_hourNinetyNineIsTheMost() {
        IntoTheCorner x = house("r1*1;d01;");
        is(x.fewest(99), 0);
        is(x.fewest(100), -6);
        is(x.fewest(HIGHEST), -6);
        is(x.count(16), 2);
    }

    void promise17_sixCoatsAndSeven() {
        IntoTheCorner x = house("r1*2;r1*2;r1*2;d01;d02;d03;");
        is(x.fewest(12), 0);
        is(x.fewest(11), -9);
        Due.house(x, "r1*1;");
        is(x.fewest(12), -6);
        is(x.count(16), 1);
    }

    void promise17_belowGoesAheadOfSevenCoats() {
        IntoTheCorner x = house("r1*2;r1*2;r1*2;r1*1;");
        is(x.fewest(-1), -4);
        is(x.fewest(100), -6);
        is(x.count(14), 1);
        is(x.count(16), 1);
    }

    void promise17_justByTheHour() {
        IntoTheCorner x = house("r3*1;d01;");
        is(x.fewest(3), 0);
        is(x.fewest(2), -9);
    }

    void promise17_noPlanksAreTheFewest() {
        IntoTheCorner x = house("r2*2;r2*1;r1*1;d01;d12;d13;");
        is(x.fewest(99), 0);
        is(x.fewest(13), 0);
        is(x.fewest(12), 2);
        is(x.fewest(11), -9);
    }

    void promise17_inPlaceOfThePlanksThereAre() {
        IntoTheCorner x = house("r2*2;r2*1;r1*1;d01;d12;d13;");
        x.planks(2);
        is(x.fewest(13), 0);
        is(x.fewest(12), 2);
        x.planks(12);
        is(x.fewest(12), 2);
        is(x.planks(0), 12);
    }

    void promise17_ofSeveralTheLeastAsBits() {
        // Room 3 at 0 over its planks, and the way to it then goes by 1 or by 2, never both SHUT.
        IntoTheCorner x = quick("r1*1;r1*1;r1*1;d01;d02;d13;d23;", "n03@1-99;");
        is("room 3 alone", x.fewest(99), 8);
        is("room 3 alone, by 4", x.fewest(4), 8);
        is("1 and 3 (10), not 2 and 3 (12)", x.fewest(3), 10);
        is("three hours of work", x.fewest(2), -9);
    }

    void promise17_noSetWillDo() {
        // But for hour 6 both rooms are asked for at all hours, and one of them must wait.
        IntoTheCorner x = house("r1*1;r1*1;d01;d02;n01@0-5;n02@0-5;", "n01@7-99;n02@7-99;");
        is(x.fewest(99), -9);
    }

    void promise17_fewerGoAheadOfLeast() {
        // By 7: 3 at 0 over its planks (8), or 1 and 2 at 0 and 1 over theirs (6). By 8: 1 at 0, and the others from 5.
        IntoTheCorner x = house("r1*1;r1*1;r2*1;d03;d31;d02;n21@2-4;");
        is(x.fewest(6), -9);
        is(x.fewest(7), 8);
        is(x.fewest(8), 2);
        is(x.fewest(9), 0);
        IntoTheCorner y = quick("r1*1;r1*1;r1*1;d01;d02;d03;", "n03@1-99;");
        is(y.fewest(99), 8);
    }

    void promise17_allRooms() {
        IntoTheCorner x = quick("r1*1;r1*1;r1*1;r1*1;r1*1;d01;d02;d03;d04;", "d05;n01@1-99;n02@2-99;n03@3-99;");
        Due.house(x, "n04@4-99;n05@5-99;");
        is(x.fewest(5), 62);
        is(x.fewest(99), 62);
        is(x.fewest(4), -9);
    }

    void promise17_planAndPlanksStay() {
        IntoTheCorner x = planned("r2*2;r2*1;r1*1;d01;d12;d13;", 3, 77, 1, 5);
        x.planks(4);
        is(x.fewest(12), 2);
        planIs(x, 3, 77, 1, 5);
        is(x.fewest(0), -9);
        planIs(x, 3, 77, 1, 5);
        is(x.planks(4), 4);
    }

    void promise17_noneIsNoRefusal() {
        IntoTheCorner x = house("r1*1;");
        is(x.fewest(99), -9);
        is(allRefusals(x), 0);
    }
}
