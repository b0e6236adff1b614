/** Promises 5 to 9: looks at the house, and what is set in it. */
final class RoomBoundaries extends Boundaries {
    private static final String FIVE_ROOMS = "r1*1;r2*1;r3*1;r4*2;r9*2;";
    private static final int[] FAR = {LOWEST, -65536, 65536, HIGHEST};

    // ---- promise 5

    void promise5_theYardIsNoRoom() {
        is(house("r1*1;").room(0, 0), -1);
        is(house("r1*1;").room(0, 1), -1);
    }

    void promise5_theFirstAndTheLast() {
        IntoTheCorner x = house("r3*2;r9*1;");
        is(x.room(1, 0), 3);
        is(x.room(1, 1), 2);
        is(x.room(2, 0), 9);
        is(x.room(2, 1), 1);
        is(house(FIVE_ROOMS).room(5, 0), 9);
        is(house(FIVE_ROOMS).room(5, 1), 2);
    }

    void promise5_oneBeyondTheLast() {
        is(yard().room(1, 0), -1);
        is(house("r1*1;").room(2, 0), -1);
        is(house(FIVE_ROOMS).room(6, 0), -1);
    }

    void promise5_belowAndFar() {
        IntoTheCorner x = house(FIVE_ROOMS);
        is(x.room(-1, 0), -1);
        for (int far : FAR) is("room " + far, x.room(far, 0), -1);
        is(x.count(11), 5);
    }

    void promise5_whatBelowAndAbove() {
        IntoTheCorner x = house(FIVE_ROOMS);
        is(x.room(1, -1), -2);
        is(x.room(1, 2), -2);
        for (int far : FAR) is("what " + far, x.room(5, far), -2);
        is(x.count(12), 6);
    }

    void promise5_nobodyGoesAheadOfOther() {
        IntoTheCorner x = house("r1*1;");
        is(x.room(2, 2), -1);
        is(x.room(0, -1), -1);
        is(x.count(11), 2);
        is(x.count(12), 0);
    }

    // ---- promise 6

    void promise6_theYardIsARoom() {
        IntoTheCorner x = house("r1*1;r1*1;d01;");
        is(x.door(0, 1), 1);
        is(x.door(1, 0), 1);
        is(x.door(0, 2), 0);
        is(x.door(2, 0), 0);
    }

    void promise6_theLastRoom() {
        IntoTheCorner x = house(FIVE_ROOMS, "d45;");
        is(x.door(4, 5), 1);
        is(x.door(5, 4), 1);
        is(x.door(5, 0), 0);
        is(x.door(5, 5), 0);
    }

    void promise6_aRoomHasNoDoorToItself() {
        is(yard().door(0, 0), 0);
        IntoTheCorner x = house("r1*1;d01;");
        is(x.door(0, 0), 0);
        is(x.door(1, 1), 0);
    }

    void promise6_oneBeyondTheLastOnEitherSide() {
        IntoTheCorner x = house("r1*1;d01;");
        is(x.door(0, 2), -1);
        is(x.door(2, 0), -1);
        is(x.door(2, 2), -1);
        is(x.count(11), 3);
        is(house(FIVE_ROOMS).door(0, 6), -1);
        is(house(FIVE_ROOMS).door(6, 0), -1);
    }

    void promise6_belowAndFarOnEitherSide() {
        IntoTheCorner x = house(FIVE_ROOMS);
        is(x.door(-1, 0), -1);
        is(x.door(0, -1), -1);
        for (int far : FAR) {
            is("a " + far, x.door(far, 0), -1);
            is("b " + far, x.door(0, far), -1);
        }
        // A shift by 32 or 33 is one by 0 or 1.
        is(x.door(0, 32), -1);
        is(x.door(32, 0), -1);
    }

    void promise6_twoWrongOnesAreOneRefusal() {
        IntoTheCorner x = yard();
        is(x.door(7, 7), -1);
        is(x.count(11), 1);
    }

    // ---- promise 7

    void promise7_noneIsThere() {
        is(yard().need(0, 0), -1);
        is(house("r1*1;").need(0, 0), -1);
    }

    void promise7_theFirstAndTheLast() {
        IntoTheCorner x = house("r1*1;n01@2-3;n10@40-50;");
        int[] first = {0, 1, 2, 3};
        int[] last = {1, 0, 40, 50};
        for (int what = 0; what <= 3; what++) {
            is("first, what " + what, x.need(0, what), first[what]);
            is("last, what " + what, x.need(1, what), last[what]);
        }
    }

    void promise7_oneBeyondTheLast() {
        IntoTheCorner x = house("r1*1;n01@2-3;");
        is(x.need(1, 0), -1);
        is(x.need(8, 0), -1);
        IntoTheCorner full = house("r1*1;n01@0-1;n01@0-1;n01@0-1;n01@0-1;", "n01@0-1;n01@0-1;n01@0-1;n01@8-9;");
        is(full.need(7, 3), 9);
        is(full.need(8, 0), -1);
    }

    void promise7_belowAndFar() {
        IntoTheCorner x = house("r1*1;n01@2-3;");
        is(x.need(-1, 0), -1);
        for (int far : FAR) is("i " + far, x.need(far, 0), -1);
    }

    void promise7_whatBelowAndAbove() {
        IntoTheCorner x = house("r1*1;n01@2-3;n01@2-3;");
        is(x.need(0, -1), -2);
        is(x.need(1, -1), -2);
        is(x.need(0, 4), -2);
        for (int far : FAR) is("what " + far, x.need(0, far), -2);
    }

    void promise7_nobodyGoesAheadOfOther() {
        IntoTheCorner x = house("r1*1;n01@2-3;");
        is(x.need(1, 4), -1);
        is(x.need(-1, -1), -1);
        is(x.count(11), 2);
        is(x.count(12), 0);
    }

    // ---- promise 8

    private void rangeOf(int what, int least, int most, int first) {
        IntoTheCorner x = yard();
        is("one below the least", x.set(what, least - 1), -4);
        is("far below", x.set(what, LOWEST), -4);
        is("one above the most", x.set(what, most + 1), -6);
        is("far above", x.set(what, HIGHEST), -6);
        is("the least", x.set(what, least), first);
        is("one below the least again", x.set(what, least - 1), -4);
        is("the most", x.set(what, most), least);
        is("one above the most again", x.set(what, most + 1), -6);
        is("was the most", x.set(what, most), most);
        is("below", x.count(14), 3);
        is("above", x.count(16), 3);
    }

    void promise8_wetFromOneToTwentyFour() {
        rangeOf(0, 1, 24, 6);
    }

    void promise8_tackyFromZeroToTwentyFour() {
        rangeOf(1, 0, 24, 2);
    }

    void promise8_lateFromOneToNinetyNine() {
        rangeOf(2, 1, 99, 48);
    }

    void promise8_handsFromOneToThree() {
        rangeOf(3, 1, 3, 1);
    }

    void promise8_whatBelowAndAbove() {
        IntoTheCorner x = yard();
        is(x.set(-1, 1), -2);
        is(x.set(4, 1), -2);
        for (int far : FAR) is("what " + far, x.set(far, 1), -2);
        is(x.count(12), 6);
    }

    void promise8_otherGoesAheadOfBelowAndRoom() {
        IntoTheCorner x = yard();
        is(x.set(4, -1), -2);
        is(x.set(-1, 100), -2);
        is(x.count(14) + x.count(16), 0);
    }

    void promise8_oneIsNotAnother() {
        IntoTheCorner x = yard();
        for (int what = 0; what <= 3; what++) x.set(what, 3);
        x.set(1, 0);
        is(x.set(0, 1), 3);
        is(x.set(1, 1), 0);
        is(x.set(2, 1), 3);
        is(x.set(3, 1), 3);
    }

    void promise8_theSameAgain() {
        IntoTheCorner x = yard();
        is(x.set(0, 6), 6);
        is(x.set(0, 6), 6);
    }

    void promise8_workByHandsIsRoundedUp() {
        int[] byTwo = {1, 1, 2, 2, 3, 3, 4, 4, 5};
        int[] byThree = {1, 1, 1, 2, 2, 2, 3, 3, 3};
        for (int work = 1; work <= 9; work++) {
            IntoTheCorner x = planned("r" + work + "*1;", 1, 10);
            is("one, work " + work, x.done(), 10 + work);
            x.set(3, 2);
            is("two, work " + work, x.done(), 10 + byTwo[work - 1]);
            x.set(3, 3);
            is("three, work " + work, x.done(), 10 + byThree[work - 1]);
        }
    }

    void promise8_wetOneAndTwentyFour() {
        IntoTheCorner x = planned("r1*1;", 1, 0);
        x.set(0, 1);
        is(x.free(1), 1);
        is(x.free(2), 3);
        x.set(0, 24);
        is(x.free(24), 1);
        is(x.free(25), 3);
    }

    // ---- promise 9

    void promise9_noBits() {
        is(yard().planks(0), 0);
        IntoTheCorner x = house(FIVE_ROOMS);
        x.planks(62);
        is(x.planks(0), 62);
        is(x.planks(0), 0);
    }

    void promise9_theYardHasNone() {
        is(yard().planks(1), -1);
        IntoTheCorner x = house("r1*1;");
        is(x.planks(1), -1);
        is(x.planks(3), -1);
        is(x.count(11), 2);
    }

    void promise9_theLastRoomAndOneBeyond() {
        IntoTheCorner x = house("r1*1;r1*1;");
        is(x.planks(4), 0);
        is(x.planks(6), 4);
        is(x.planks(8), -1);
        is(x.planks(14), -1);
        is(x.planks(0), 6);
    }

    void promise9_allFiveAndOneBeyond() {
        IntoTheCorner x = house(FIVE_ROOMS);
        is(x.planks(62), 0);
        is(x.planks(32), 62);
        is(x.planks(64), -1);
        is(x.planks(126), -1);
        is(x.planks(63), -1);
        is(x.planks(0), 32);
    }

    void promise9_farBits() {
        IntoTheCorner x = house(FIVE_ROOMS);
        for (int far : new int[] {LOWEST, HIGHEST, -1, -2, 1 << 30, LOWEST | 2}) is("bits " + far, x.planks(far), -1);
        is(x.planks(0), 0);
        is(x.count(11), 6);
    }

    void promise9_aRefusedOneLeavesThemLying() {
        IntoTheCorner x = planned("r1*1;r1*1;", 2, 0);
        x.planks(4);
        is(x.planks(9), -1);
        is(x.free(1), 7);
        is(x.planks(0), 4);
    }

    void promise9_aRoomThatComesLaterMayHaveThem() {
        IntoTheCorner x = house("r1*1;");
        is(x.planks(4), -1);
        Due.house(x, "r1*1;");
        is(x.planks(4), 0);
    }
}
