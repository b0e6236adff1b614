/** Promises 23, 24 and 25: THE IMAGE, ON from it, and counts. */
final class ImageBoundaries extends Boundaries {
    // ---- promise 23

    void promise23_ofTheYardAlone() {
        IntoTheCorner x = yard();
        is(x.image(), 0);
        Due.house(x, "r1*1;d01;n01@0-1;");
        x.step(1, 0);
        x.planks(2);
        x.set(0, 1);
        Due.floor(x, "d");
        is(x.on(), 0);
        for (int what = 0; what <= 4; what++) is("count " + what, x.count(what), 0);
        is(x.set(0, 6), 6);
        is(x.planks(0), 0);
        is(x.out(), -3);
    }

    void promise23_howManyRooms() {
        IntoTheCorner x = house("r1*1;");
        is(x.image(), 1);
        Due.house(x, "r1*1;r1*1;r1*1;r1*1;");
        is(x.image(), 5);
    }

    void promise23_itChangesNothing() {
        IntoTheCorner x = planned("r1*1;d01;", 1, 3);
        x.feed(1, 'd');
        x.image();
        is(x.count(3), 1);
        is(x.count(5), 1);
        is(allRefusals(x), 0);
        is(x.floor(), 1);
    }

    void promise23_aSecondTakesThePlaceOfTheFirst() {
        IntoTheCorner x = planned("r1*1;d01;", 1, 3);
        x.image();
        x.clear();
        x.image();
        x.step(1, 4);
        is(x.on(), 1);
        is(x.count(3), 0);
    }

    // ---- promise 24

    void promise24_noneIsThere() {
        IntoTheCorner x = house("r1*1;");
        is(x.on(), -3);
        is(x.on(), -3);
        is(x.count(13), 2);
        is(x.count(0), 1);
    }

    void promise24_rooms() {
        IntoTheCorner x = house("r3*2;");
        x.image();
        Due.house(x, "r1*1;r2*2;");
        is(x.on(), 1);
        is(x.count(0), 1);
        is(x.room(1, 0), 3);
        is(x.room(2, 0), -1);
        is(x.count(4), 2);
        is(x.planks(4), -1);
        is(x.free(0), 3);
        Due.house(x, "r7*1;");
        is(x.room(2, 0), 7);
    }

    void promise24_doors() {
        IntoTheCorner x = house("r1*1;r1*1;d01;");
        x.image();
        Due.house(x, "d02;d12;");
        is(x.way(0, 2, 0), 1);
        x.on();
        is(x.count(1), 1);
        is(x.door(0, 1), 1);
        is(x.door(0, 2), 0);
        is(x.door(1, 2), 0);
        is(x.way(0, 2, 0), -9);
        is("a door again", Due.house(x, "d02;"), 1);
    }

    void promise24_needs() {
        IntoTheCorner x = planned("r1*1;d01;n01@5-6;", 1, 50);
        x.image();
        Due.house(x, "n01@50-50;");
        is(x.judged(1), 3);
        x.on();
        is(x.count(2), 1);
        is(x.need(0, 2), 5);
        is(x.need(1, 0), -1);
        is(x.judged(1), -9);
    }

    void promise24_waysAreThoseOfTheDoorsThen() {
        IntoTheCorner x = planned("r1*1;r1*1;d01;n02@7-8;", 1, 20, 2, 40);
        x.image();
        Due.house(x, "d02;");
        is(x.judged(0), -9);
        is(x.cuts(), 4);
        is(x.soonest(), 2);
        x.on();
        is("3 at 7", x.judged(0), 7);
        is("no way at all", x.cuts(), 6);
        is("no way to room 2", x.soonest(), -9);
        is(x.fewest(99), -9);
    }

    void promise24_waysAreThoseOfTheNeedsThen() {
        IntoTheCorner x = planned("r1*1;d01;n01@0-0;", 1, 0);
        x.image();
        Due.house(x, "r1*1;d02;n02@5-5;");
        is(x.cuts(), 6);
        x.on();
        is(x.cuts(), 2);
        is(x.judged(0), 0);
        is(x.soonest(), 2);
    }

    void promise24_wetTackyLateHands() {
        int[] kept = {5, 4, 50, 2};
        IntoTheCorner x = yard();
        for (int what = 0; what <= 3; what++) x.set(what, kept[what]);
        x.image();
        for (int what = 0; what <= 3; what++) x.set(what, 3);
        x.on();
        for (int what = 0; what <= 3; what++) is("what " + what, x.set(what, 1), kept[what]);
    }

    void promise24_planks() {
        IntoTheCorner x = house("r1*1;r1*1;");
        x.planks(4);
        x.image();
        x.planks(2);
        x.on();
        is(x.planks(0), 4);
    }

    void promise24_plan() {
        IntoTheCorner x = planned("r1*1;r1*1;", 1, 3, 2, 4);
        x.image();
        x.clear();
        x.step(2, 9);
        x.on();
        is(x.count(3), 2);
        is(x.stepOf(0, 0), 1);
        is(x.stepOf(0, 1), 3);
        is(x.stepOf(1, 0), 2);
        is(x.stepOf(1, 1), 4);
    }

    void promise24_planThatSoonestReplaced() {
        IntoTheCorner x = planned("r1*1;d01;", 1, 30, 1, 50);
        x.image();
        x.soonest();
        x.on();
        is(x.count(3), 2);
        is(x.stepOf(0, 1), 30);
        is(x.stepOf(1, 1), 50);
    }

    void promise24_floor() {
        IntoTheCorner x = yard();
        Due.floor(x, "#d/..");
        x.image();
        Due.floor(x, "d..");
        x.on();
        is(x.square(0, 0), 0);
        is(x.square(0, 1), 2);
        is(x.square(1, 0), 1);
        is(x.square(0, 2), -1);
        is(x.out(), 4);
    }

    void promise24_theTapeIsAsItIsNow() {
        IntoTheCorner x = yard();
        x.feed(2, 'x');
        x.image();
        x.house();
        x.feed(1, 'd');
        x.on();
        is(x.count(5), 1);
        is(x.floor(), 1);
    }

    void promise24_refusalsAreAsTheyAreNow() {
        IntoTheCorner x = yard();
        x.room(1, 0);
        x.image();
        x.room(1, 0);
        x.set(9, 0);
        x.on();
        is(x.count(11), 2);
        is(x.count(12), 1);
    }

    void promise24_againAndAgain() {
        IntoTheCorner x = planned("r1*1;", 1, 3);
        x.image();
        for (int i = 0; i < 3; i++) {
            x.clear();
            Due.house(x, "r1*1;d12;");
            x.planks(6);
            x.set(0, 2 + i);
            is(x.on(), 1);
            is(x.count(3), 1);
            is(x.planks(0), 0);
            is(x.set(0, 1), 6);
        }
    }

    void promise24_whatChangesBehindItIsNotInTheImage() {
        IntoTheCorner x = planned("r1*1;", 1, 3);
        x.image();
        x.on();
        x.step(1, 4);
        x.set(0, 1);
        x.on();
        is(x.count(3), 1);
        is(x.set(0, 1), 6);
    }

    void promise24_fullOfAllAndOn() {
        IntoTheCorner x = house("r1*1;r1*1;r1*1;r1*1;r9*2;", "d01;d02;d03;d04;d05;d12;d13;d14;d15;d23;d24;d25;",
            "n01@0-0;n01@0-0;n01@0-0;n01@0-0;", "n01@0-0;n01@0-0;n01@0-0;n25@1-9;");
        for (int i = 0; i < 8; i++) x.step(5, 90 + i);
        Due.floor(x, "d####/#..../#.##./#####/####.");
        is(x.image(), 5);
        x.clear();
        is(x.on(), 5);
        is(x.count(1), 12);
        is(x.door(2, 5), 1);
        is(x.door(3, 4), 0);
        is(x.need(7, 0), 2);
        is(x.need(7, 3), 9);
        is(x.room(5, 0), 9);
        is(x.room(5, 1), 2);
        is(x.stepOf(7, 1), 97);
        is(x.square(0, 0), 2);
        is(x.square(4, 4), 1);
        is(x.square(4, 3), 0);
        is(x.step(1, 0), -6);
    }

    // ---- promise 25

    void promise25_otherWhat() {
        IntoTheCorner x = house("r1*1;");
        for (int what : new int[] {-1, 6, 7, 8, 9, 10, 17, 18, LOWEST, HIGHEST, -11, 1 << 16}) {
            is("what " + what, x.count(what), -9);
        }
        is("none is counted", allRefusals(x), 0);
    }

    void promise25_zeroToFive() {
        IntoTheCorner x = planned("r1*2;r1*1;r1*2;d01;d02;n01@0-0;", 1, 0, 1, 1, 1, 2, 1, 3);
        x.feed(7, 0);
        int[] due = {3, 2, 1, 4, 5, 7};
        for (int what = 0; what <= 5; what++) is("what " + what, x.count(what), due[what]);
    }

    void promise25_theMostOfEach() {
        IntoTheCorner x = house("r1*2;r1*2;r1*2;r1*2;r1*2;", "d01;d02;d03;d04;d05;d12;d13;d14;d15;d23;d24;d25;",
            "n01@0-0;n01@0-0;n01@0-0;n01@0-0;", "n01@0-0;n01@0-0;n01@0-0;n01@0-0;");
        for (int i = 0; i < 8; i++) x.step(5, i);
        for (int i = 0; i < 6; i++) x.feed(8, 0);
        int[] due = {5, 12, 8, 8, 10, 48};
        for (int what = 0; what <= 5; what++) is("what " + what, x.count(what), due[what]);
    }

    private void kindIs(IntoTheCorner x, int kind, int often) {
        for (int what = 11; what <= 16; what++) is("what " + what, x.count(what), what == kind ? often : 0);
    }

    void promise25_nobodyIsEleven() {
        IntoTheCorner x = yard();
        x.room(1, 0);
        kindIs(x, 11, 1);
    }

    void promise25_otherIsTwelve() {
        IntoTheCorner x = yard();
        x.judged(2);
        x.set(4, 0);
        kindIs(x, 12, 2);
    }

    void promise25_stateIsThirteen() {
        IntoTheCorner x = yard();
        x.on();
        x.out();
        x.soonest();
        kindIs(x, 13, 3);
    }

    void promise25_belowIsFourteen() {
        IntoTheCorner x = yard();
        x.free(-1);
        x.feed(0, 0);
        kindIs(x, 14, 2);
    }

    void promise25_roomIsSixteen() {
        IntoTheCorner x = yard();
        x.free(100);
        x.feed(9, 0);
        kindIs(x, 16, 2);
    }

    void promise25_fiveHundredRefusals() {
        IntoTheCorner x = yard();
        for (int i = 0; i < 500; i++) x.free(i % 2 == 0 ? -1 : 100);
        is(x.count(14), 250);
        is(x.count(16), 250);
    }
}
