/** Each promise of the document by its number: ordinary inputs, edges, wrong inputs. */
public final class PromisesTest {
    private static final String CORRIDOR = "r3*1;r2*1;r4*2;d01;d12;d23;";

    private final Due due = new Due();

    private PromisesTest() {
    }

    public static void main(String[] args) {
        PromisesTest test = new PromisesTest();
        test.promise1NewObject();
        test.promise2Feed();
        test.promise3House();
        test.promise3HouseStrayBytes();
        test.promise3HouseWrongStatements();
        test.promise3HouseNoRoomForMore();
        test.promise4Floor();
        test.promise5Room();
        test.promise6Door();
        test.promise7Need();
        test.promise8Set();
        test.promise9Planks();
        test.promise10Step();
        test.promise11StepOf();
        test.promise12Clear();
        test.promise13JudgedPainter();
        test.promise13JudgedCoats();
        test.promise13JudgedNeeds();
        test.promise14Done();
        test.promise15Where();
        test.promise16Soonest();
        test.promise16SoonestOrders();
        test.promise17Fewest();
        test.promise18Cuts();
        test.promise19Way();
        test.promise20Free();
        test.promise21Out();
        test.promise22Square();
        test.promise23And24Image();
        test.promise25Count();
        test.due.end();
    }

    private void promise1NewObject() {
        IntoTheCorner x = new IntoTheCorner();
        for (int what = 0; what <= 5; what++) {
            due.is("1: count " + what, x.count(what), 0);
        }
        for (int what = 11; what <= 16; what++) {
            due.is("1: count " + what, x.count(what), 0);
        }
        due.is("1: the yard is free", x.free(0), 1);
        due.is("1: from the yard to the yard", x.way(0, 0, 99), 0);
        due.is("1: nothing is wrong", x.judged(0), -9);
        due.is("1: WET", x.set(0, 1), 6);
        due.is("1: TACKY", x.set(1, 1), 2);
        due.is("1: LATE", x.set(2, 1), 48);
        due.is("1: HANDS", x.set(3, 1), 1);
        due.is("1: PLANKS", x.planks(0), 0);
        due.is("1: no floor", x.out(), -3);
        due.is("1: no image", x.on(), -3);
    }

    private void promise2Feed() {
        IntoTheCorner x = new IntoTheCorner();
        due.is("2: n 0", x.feed(0, 0), -4);
        due.is("2: n below", x.feed(Integer.MIN_VALUE, 0), -4);
        due.is("2: n 9", x.feed(9, 0), -6);
        due.is("2: n far above", x.feed(Integer.MAX_VALUE, 0), -6);
        due.is("2: one", x.feed(1, 'd'), 1);
        due.is("2: the bytes above n are not read", x.feed(2, 0x7777_7777_7777_2E2EL), 3);
        due.is("2: as a floor", x.floor(), 3);
        due.is("2: the lowest is first", x.square(0, 0), 2);
        for (int i = 1; i <= 6; i++) {
            due.is("2: eight", x.feed(8, -1L), 8 * i);
        }
        due.is("2: above 48", x.feed(1, 0), -6);
        due.is("2: below goes first", x.feed(-1, 0), -4);
        due.is("2: still 48", x.count(5), 48);
        due.is("2: 255 is no sign", x.house(), -1000);
        Due.feed(x, "0123456789012345678901234567890123456789");
        due.is("2: 40 and 8", x.feed(8, 0), 48);
        x.house();
        Due.feed(x, "012345678901234567890123456789012345678901");
        due.is("2: 42 and 7", x.feed(7, 0), -6);
        due.is("2: 42 and 6", x.feed(6, 0), 48);
        due.is("2: refusals", x.count(14) * 100 + x.count(16), 304);
    }

    private void promise3House() {
        IntoTheCorner x = new IntoTheCorner();
        due.is("3: statements", Due.house(x, "r9*2;d01;n10@0-99;"), 3);
        due.is("3: the tape is empty", x.count(5), 0);
        due.is("3: more comes to it", Due.house(x, "r1*1;d12;n02@07-7;"), 3);
        due.is("3: rooms", x.count(0), 2);
        due.is("3: doors", x.count(1), 2);
        due.is("3: needs", x.count(2), 2);
        due.is("3: 07 is 7", x.need(1, 2), 7);
        x.step(1, 5);
        due.is("3: the same need again", Due.house(x, "n02@7-7;"), 1);
        due.is("3: the plan stays", x.count(3), 1);
        due.is("3: with a fault nothing comes", Due.house(x, "r1*1;d03;d33;"), -2009);
        due.is("3: rooms as before", x.count(0), 2);
        due.is("3: doors as before", x.count(1), 2);
        due.is("3: the tape is empty by a fault, too", x.count(5), 0);
        due.is("3: ways are as before", x.way(0, 2, 0), 2);
        due.is("3: a new door shortens a way", Due.house(x, "d02;"), 1);
        due.is("3: ways know it", x.way(0, 2, 0), 1);
        due.is("3: kind 1 goes first", Due.house(x, "d00;r1"), -1006);
        due.is("3: no fault is counted", x.count(11) + x.count(12) + x.count(13) + x.count(14) + x.count(16), 0);
        String longest = "r1*1;r1*1;r1*1;r1*1;d01;d02;d03;d04;d12;d13;d14;";
        due.is("3: 48 bytes", Due.house(new IntoTheCorner(), longest), 11);
    }

    private void promise3HouseStrayBytes() {
        String[] texts = {"", ";", "R1*1;", " r1*1;", "r", "r*", "r1", "r1+", "r1*", "r1*;", "r1*12;", "r1*1",
            "r1*1;;", "r1*1; ", "d", "d0", "d0;", "d012;", "d01", "n0", "n01", "n01;", "n01@", "n01@-", "n01@1",
            "n01@1;", "n01@12", "n01@123-", "n01@12-", "n01@12-;", "n01@12-1", "n01@12-12", "n01@12-123;",
            "r1*1;d01;n01@1-2;x", "r-1*1;", "rr"};
        int[] places = {0, 0, 0, 0, 1, 1, 2, 2, 3, 3, 4, 4,
            5, 5, 1, 2, 2, 3, 3, 2, 3, 3, 4, 4, 5,
            5, 6, 6, 7, 7, 8, 9, 9,
            17, 1, 1};
        for (int i = 0; i < texts.length; i++) {
            due.is("3: kind 1 of " + texts[i], Due.house(new IntoTheCorner(), texts[i]), -1000 - places[i]);
        }
    }

    private void promise3HouseWrongStatements() {
        String[] texts = {"r0*1;", "r1*0;", "r1*3;", "r1*9;", "d01;", "d10;", "r1*1;d00;", "r1*1;d11;", "r1*1;d02;",
            "r1*1;d20;", "r1*1;d01;d01;", "r1*1;d01;d10;", "n01@0-1;", "r1*1;n11@0-1;", "r1*1;n00@0-1;",
            "r1*1;n02@0-1;", "r1*1;n90@0-1;", "r1*1;n01@2-1;", "r1*1;n01@99-00;", "d01;r1*1;", "r1*1;d09;"};
        int[] places = {0, 0, 0, 0, 0, 0, 5, 5, 5,
            5, 9, 9, 0, 5, 5,
            5, 5, 5, 5, 0, 5};
        for (int i = 0; i < texts.length; i++) {
            due.is("3: kind 2 of " + texts[i], Due.house(new IntoTheCorner(), texts[i]), -2000 - places[i]);
        }
        due.is("3: equal hours can be", Due.house(new IntoTheCorner(), "r1*1;n01@99-99;"), 2);
        due.is("3: the first of two", Due.house(new IntoTheCorner(), "r1*1;d11;r0*0;"), -2005);
    }

    private void promise3HouseNoRoomForMore() {
        IntoTheCorner x = Due.houseOf("r1*1;r1*1;r1*1;r1*1;");
        due.is("3: a sixth room", Due.house(x, "r1*1;r1*1;"), -2005);
        due.is("3: none of it came", x.count(0), 4);
        due.is("3: a fifth room", Due.house(x, "r1*1;"), 1);
        due.is("3: twelve doors", Due.house(x, "d01;d02;d03;d04;d05;d12;d13;d14;d15;d23;d24;d25;"), 12);
        due.is("3: a thirteenth", Due.house(x, "d34;"), -2000);
        due.is("3: twelve stay", x.count(1), 12);
        due.is("3: four needs", Due.house(x, "n01@0-1;n01@0-1;n01@0-1;n01@0-1;"), 4);
        due.is("3: a ninth need", Due.house(x, "n12@0-1;n12@0-1;n12@0-1;n12@0-1;n12@0-1;"), -2032);
        due.is("3: four more", Due.house(x, "n12@0-1;n12@0-1;n12@0-1;n12@0-1;"), 4);
        due.is("3: another one", Due.house(x, "n12@0-1;"), -2000);
        due.is("3: eight stay", x.count(2), 8);
    }

    private void promise4Floor() {
        String[] texts = {"d", ".d", "d/.", "d.#/###/.#.", "d..../.....", "####d", "#/#/#/#/d", ".....",
            "", "/d", "d/", "d//.", "dd", "d.d", "......", "d...../", "d./.", "d./.../..", "d./...", "./d/./././.",
            "#/#/#/#/#/d", "#/#/#/#/#/", "d..../...../.", "...../...../d", "...../.....", "d,", "D", "d./.x",
            "d./", "..", "d./#/", "##/#d#"};
        int[] answers = {1, 2, 2, 4, 10, 1, 1, -25,
            -20, -20, -22, -22, -21, -22, -25, -25, -24, -25, -25, -29,
            -29, -29, -32, -32, -31, -21, -20, -24,
            -23, -22, -24, -25};
        for (int i = 0; i < texts.length; i++) {
            due.is("4: " + texts[i], Due.floor(new IntoTheCorner(), texts[i]), answers[i]);
        }
        IntoTheCorner x = new IntoTheCorner();
        Due.floor(x, "d.");
        due.is("4: a fault", Due.floor(x, "d.x"), -22);
        due.is("4: the tape is empty", x.count(5), 0);
        due.is("4: the floor stays", x.square(0, 1), 1);
        due.is("4: it has no third", x.square(0, 2), -1);
        due.is("4: nothing was counted but that", x.count(11), 1);
        due.is("4: another floor in its place", Due.floor(x, "#/d"), 1);
        due.is("4: its first", x.square(0, 0), 0);
        due.is("4: its second", x.square(1, 0), 2);
    }

    private void promise5Room() {
        IntoTheCorner x = Due.houseOf("r9*2;r1*1;");
        due.is("5: work", x.room(1, 0), 9);
        due.is("5: coats", x.room(1, 1), 2);
        due.is("5: work", x.room(2, 0), 1);
        due.is("5: coats", x.room(2, 1), 1);
        due.is("5: the yard is no ROOM", x.room(0, 0), -1);
        due.is("5: none", x.room(3, 0), -1);
        due.is("5: -1 goes first", x.room(-1, 7), -1);
        due.is("5: far", x.room(Integer.MAX_VALUE, 0), -1);
        due.is("5: what 2", x.room(1, 2), -2);
        due.is("5: what -1", x.room(1, -1), -2);
        due.is("5: refusals", x.count(11) * 10 + x.count(12), 42);
    }

    private void promise6Door() {
        IntoTheCorner x = Due.houseOf("r9*2;r1*1;d12;");
        due.is("6: there", x.door(1, 2), 1);
        due.is("6: from its other side", x.door(2, 1), 1);
        due.is("6: not there", x.door(0, 1), 0);
        due.is("6: to itself", x.door(1, 1), 0);
        due.is("6: no a", x.door(3, 0), -1);
        due.is("6: no b", x.door(0, 3), -1);
        due.is("6: below", x.door(-1, 0), -1);
        due.is("6: far", x.door(0, Integer.MIN_VALUE), -1);
        due.is("6: refusals", x.count(11), 4);
    }

    private void promise7Need() {
        IntoTheCorner x = Due.houseOf("r9*2;r1*1;n21@3-45;n01@6-6;");
        due.is("7: from", x.need(0, 0), 2);
        due.is("7: to", x.need(0, 1), 1);
        due.is("7: first", x.need(0, 2), 3);
        due.is("7: last", x.need(0, 3), 45);
        due.is("7: of the second", x.need(1, 0), 0);
        due.is("7: none", x.need(2, 0), -1);
        due.is("7: below", x.need(-1, 9), -1);
        due.is("7: what 4", x.need(0, 4), -2);
        due.is("7: what -1", x.need(0, -1), -2);
        due.is("7: refusals", x.count(11) * 10 + x.count(12), 22);
    }

    private void promise8Set() {
        int[] least = {1, 0, 1, 1};
        int[] most = {24, 24, 99, 3};
        int[] first = {6, 2, 48, 1};
        IntoTheCorner x = new IntoTheCorner();
        for (int what = 0; what < 4; what++) {
            due.is("8: below " + what, x.set(what, least[what] - 1), -4);
            due.is("8: above " + what, x.set(what, most[what] + 1), -6);
            due.is("8: far below " + what, x.set(what, Integer.MIN_VALUE), -4);
            due.is("8: far above " + what, x.set(what, Integer.MAX_VALUE), -6);
            due.is("8: the least " + what, x.set(what, least[what]), first[what]);
            due.is("8: the most " + what, x.set(what, most[what]), least[what]);
            due.is("8: was the most " + what, x.set(what, first[what]), most[what]);
        }
        due.is("8: what 4", x.set(4, -5), -2);
        due.is("8: what -1", x.set(-1, 1), -2);
        due.is("8: refusals", x.count(12) * 100 + x.count(14) * 10 + x.count(16), 288);
        hands();
    }

    private void hands() {
        int[] work = {1, 2, 3, 4, 6, 7, 9};
        int[] byTwo = {1, 1, 2, 2, 3, 4, 5};
        int[] byThree = {1, 1, 1, 2, 2, 3, 3};
        for (int i = 0; i < work.length; i++) {
            IntoTheCorner x = Due.houseOf("r" + work[i] + "*1;");
            x.step(1, 10);
            due.is("8: one hand " + work[i], x.done(), 10 + work[i]);
            x.set(3, 2);
            due.is("8: two hands " + work[i], x.done(), 10 + byTwo[i]);
            x.set(3, 3);
            due.is("8: three hands " + work[i], x.done(), 10 + byThree[i]);
        }
    }

    private void promise9Planks() {
        IntoTheCorner x = Due.houseOf("r9*2;r1*1;");
        due.is("9: none at first", x.planks(6), 0);
        due.is("9: both", x.planks(4), 6);
        due.is("9: the yard", x.planks(1), -1);
        due.is("9: the yard and a ROOM", x.planks(3), -1);
        due.is("9: no such ROOM", x.planks(8), -1);
        due.is("9: all bits", x.planks(-1), -1);
        due.is("9: the highest", x.planks(Integer.MIN_VALUE), -1);
        due.is("9: bit 6", x.planks(64), -1);
        due.is("9: as before", x.planks(0), 4);
        due.is("9: refusals", x.count(11), 6);
        IntoTheCorner y = Due.houseOf("r1*1;r1*1;r1*1;r1*1;r1*1;");
        due.is("9: all five", y.planks(62), 0);
        due.is("9: all five were", y.planks(62), 62);
    }

    private void promise10Step() {
        IntoTheCorner x = Due.houseOf("r9*2;r1*1;");
        due.is("10: the yard", x.step(0, 0), -1);
        due.is("10: no such ROOM", x.step(3, -1), -1);
        due.is("10: below", x.step(1, -1), -4);
        due.is("10: above", x.step(1, 100), -6);
        for (int i = 1; i <= 8; i++) {
            due.is("10: a step more", x.step(2, i == 1 ? 99 : 0), i);
        }
        due.is("10: a ninth", x.step(2, 0), -6);
        due.is("10: -4 goes ahead of it", x.step(2, -7), -4);
        due.is("10: -1 goes ahead of it", x.step(-2, -7), -1);
        due.is("10: eight", x.count(3), 8);
        due.is("10: refusals", x.count(11) * 100 + x.count(14) * 10 + x.count(16), 322);
    }

    private void promise11StepOf() {
        IntoTheCorner x = Due.houseOf("r9*2;r1*1;");
        due.is("11: none", x.stepOf(0, 0), -1);
        x.step(2, 99);
        x.step(1, 7);
        due.is("11: room", x.stepOf(0, 0), 2);
        due.is("11: hour", x.stepOf(0, 1), 99);
        due.is("11: room", x.stepOf(1, 0), 1);
        due.is("11: hour", x.stepOf(1, 1), 7);
        due.is("11: what 2", x.stepOf(1, 2), -2);
        due.is("11: what -1", x.stepOf(1, -1), -2);
        due.is("11: behind the last", x.stepOf(2, 5), -1);
        due.is("11: below", x.stepOf(-1, 0), -1);
        due.is("11: refusals", x.count(11) * 10 + x.count(12), 32);
    }

    private void promise12Clear() {
        IntoTheCorner x = Due.houseOf("r9*2;");
        due.is("12: none", x.clear(), 0);
        x.step(1, 4);
        x.step(1, 5);
        due.is("12: two", x.clear(), 2);
        due.is("12: none is left", x.count(3), 0);
        due.is("12: they are gone", x.stepOf(0, 0), -1);
        due.is("12: nothing is shut", x.free(4), 3);
        due.is("12: a step more", x.step(1, 6), 1);
    }

    private void judgedIs(String name, IntoTheCorner x, int hour, int thing) {
        due.is("13: " + name + ", hour", x.judged(0), hour);
        due.is("13: " + name + ", thing", x.judged(1), thing);
    }

    private static IntoTheCorner planned(String house, int... roomsAndHours) {
        IntoTheCorner x = Due.houseOf(house);
        for (int i = 0; i < roomsAndHours.length; i += 2) {
            x.step(roomsAndHours[i], roomsAndHours[i + 1]);
        }
        return x;
    }

    private void promise13JudgedPainter() {
        judgedIs("all is well", planned("r2*1;d01;", 1, 0), -9, -9);
        judgedIs("1, no way to it", planned("r2*1;r1*1;d12;", 1, 5, 2, 40), 5, 1);
        // Room 1 takes hours 0 and 1, is WET in 2 to 7: through it he comes to room 2 at 8 again.
        judgedIs("1, a WET room between", planned("r2*1;r1*1;d01;d12;", 1, 0, 2, 7), 7, 1);
        judgedIs("1, TACKY is no bar", planned("r2*1;r1*1;d01;d12;", 1, 0, 2, 8), -9, -9);
        IntoTheCorner planks = planned("r2*1;r1*1;d01;d12;", 1, 0, 2, 2);
        judgedIs("1, without PLANKS", planks, 2, 1);
        planks.planks(2);
        judgedIs("1, with PLANKS", planks, -9, -9);
        judgedIs("1 ahead of 2, no door at all", planned("r3*1;r2*1;d01;", 1, 0, 2, 20), 20, 1);
        judgedIs("2, one room beside is open", planned("r2*1;r1*1;d01;d02;d12;", 1, 0, 2, 2), -9, -9);
        IntoTheCorner shut = planned("r1*1;r9*1;d01;d12;", 2, 0, 1, 3);
        judgedIs("6 and 2", shut, 3, 6);
        IntoTheCorner in = planned("r1*1;r9*1;d01;d12;", 1, 0, 2, 0);
        judgedIs("1 and 6, at once", in, 0, 1);
        judgedIs("2 is not wrong once room 1 is dry", planned("r1*1;r9*1;d01;d12;", 1, 0, 2, 7), -9, -9);
        // Room 1 is PAINTED from 5 by the STEP ahead, so at 6 there is no way out of room 2.
        judgedIs("6 goes ahead of 2 at a later hour", planned("r9*1;r3*1;d01;d12;", 1, 5, 2, 3), 3, 6);
        // The yard, 3, 2, 1 in a row: out of room 2 he goes into room 1, and is in the corner there.
        judgedIs("2, the hour at which it is done", planned("r1*1;r1*1;r1*1;d03;d32;d21;", 2, 0, 1, 1, 3, 9), 2, 2);
        judgedIs("6, equal hours are fine", planned("r2*1;r2*1;d01;d02;", 1, 0, 2, 2), -9, -9);
        judgedIs("6, an hour too soon", planned("r2*1;r2*1;d01;d02;", 1, 0, 2, 1), 1, 6);
        shutInLater();
    }

    private void shutInLater() {
        IntoTheCorner x = planned("r1*1;r9*1;d01;d12;", 1, 98, 2, 99);
        judgedIs("1 at 99", x, 99, 1);
        x.planks(2);
        judgedIs("planks let him pass, and out", x, -9, -9);
        IntoTheCorner y = planned("r9*1;r2*1;d01;d12;d02;", 2, 99, 1, 99);
        judgedIs("6 at 99", y, 99, 6);
        IntoTheCorner z = Due.houseOf("r1*1;r1*1;r1*1;d01;d12;d13;");
        z.step(2, 0);
        z.step(3, 1);
        z.step(1, 2);
        judgedIs("rooms from behind to the front", z, -9, -9);
        IntoTheCorner w = Due.houseOf("r2*1;r1*1;d01;d12;");
        w.set(0, 1);
        w.step(1, 0);
        w.step(2, 3);
        judgedIs("WET for an hour only", w, -9, -9);
        // Room 2 has one way out, room 1. That is painted from hour 4 by a STEP ahead; room 2 is done at 4.
        IntoTheCorner v = planned("r2*1;r2*1;d01;d12;", 1, 4, 2, 2);
        judgedIs("6 ahead of 2", v, 2, 6);
        due.is("13: he stays in room 2", v.where(2), 2);
        IntoTheCorner u = planned("r2*1;r2*1;d12;d01;n01@50-50;", 2, 0, 2, 50, 1, 50);
        judgedIs("3 ahead of 6 and 7 at one hour", u, 50, 3);
        u.step(2, 50);
        judgedIs("1 ahead of 3 at one hour", u, 50, 1);
        IntoTheCorner t = planned("r9*1;r1*1;r1*1;d03;d32;d21;", 3, 0, 2, 90, 1, 99);
        judgedIs("room 2 is dry again", t, -9, -9);
        t.set(0, 24);
        judgedIs("2 beyond 99", t, 108, 2);
        due.is("13: he stays in room 1", t.where(3), 1);
    }

    private void promise13JudgedCoats() {
        // Two hours, WET six, TACKY two: dry at 10.
        judgedIs("8, none yet", planned("r2*2;d01;"), 99, 8);
        judgedIs("8, one yet", planned("r2*2;d01;", 1, 0), 99, 8);
        judgedIs("two coats", planned("r2*2;d01;", 1, 0, 1, 10), -9, -9);
        judgedIs("4, TACKY still", planned("r2*2;d01;", 1, 0, 1, 9), 9, 4);
        judgedIs("1 ahead of 4, WET still", planned("r2*2;d01;", 1, 0, 1, 7), 7, 1);
        IntoTheCorner planks = planned("r2*2;d01;", 1, 0, 1, 7);
        planks.planks(2);
        judgedIs("4, WET with PLANKS", planks, 7, 4);
        judgedIs("1 ahead of 4 and 6, PAINTED still", planned("r2*2;d01;", 1, 0, 1, 1), 1, 1);
        judgedIs("5, just not too late", planned("r2*2;d01;", 1, 0, 1, 50), -9, -9);
        judgedIs("5, too late", planned("r2*2;d01;", 1, 0, 1, 51), 51, 5);
        judgedIs("7, a third", planned("r2*2;d01;", 1, 0, 1, 10, 1, 20), 20, 7);
        judgedIs("5 ahead of 7", planned("r2*2;d01;", 1, 0, 1, 10, 1, 61), 61, 5);
        judgedIs("5 by the coat just ahead", planned("r2*2;d01;", 1, 0, 1, 40, 1, 70), 70, 7);
        judgedIs("7 ahead of 8", planned("r2*1;r2*1;d01;d02;", 1, 0, 1, 99), 99, 5);
        judgedIs("4 is by STEPS ahead alone", planned("r2*2;d01;", 1, 20, 1, 5), 5, 6);
        IntoTheCorner tacky = planned("r2*2;d01;", 1, 0, 1, 8);
        judgedIs("4 with TACKY 2", tacky, 8, 4);
        tacky.set(1, 0);
        judgedIs("no TACKY", tacky, -9, -9);
        tacky.set(1, 24);
        judgedIs("long TACKY", tacky, 8, 4);
        tacky.set(1, 0);
        tacky.set(2, 1);
        judgedIs("LATE 1", tacky, 8, 5);
        tacky.set(2, 6);
        judgedIs("LATE 6", tacky, -9, -9);
    }

    private void promise13JudgedNeeds() {
        String house = "r2*1;r1*1;d01;d12;n02@";
        // Room 1 is SHUT from 0 to 7, room 2 from 20 to 26.
        judgedIs("3, the first hour", planned(house + "7-9;", 1, 0, 2, 20), 7, 3);
        judgedIs("3, behind it", planned(house + "8-19;", 1, 0, 2, 20), -9, -9);
        judgedIs("3, the last hour", planned(house + "8-20;", 1, 0, 2, 20), 20, 3);
        judgedIs("3, an end is SHUT", planned(house + "26-26;", 1, 0, 2, 20), 26, 3);
        judgedIs("3, open again", planned(house + "27-99;", 1, 0, 2, 20), -9, -9);
        IntoTheCorner x = planned(house + "2-7;", 1, 0, 2, 20);
        judgedIs("3, WET", x, 2, 3);
        judgedIs("3, hour 0", planned(house + "0-0;", 1, 0, 2, 20), 0, 3);
        x.planks(2);
        judgedIs("3, PLANKS", x, -9, -9);
        judgedIs("3, no way at all", planned("r1*1;r1*1;d01;n02@40-41;"), 40, 3);
        judgedIs("3, hours between", planned(house + "0-99;", 2, 50), 50, 3);
        judgedIs("3 ahead of 8", planned("r1*1;n01@99-99;"), 99, 3);
        IntoTheCorner none = new IntoTheCorner();
        due.is("13: what 2", none.judged(2), -2);
        due.is("13: what -1", none.judged(-1), -2);
        due.is("13: refusals", none.count(12), 2);
    }

    private void promise14Done() {
        IntoTheCorner x = Due.houseOf("r9*2;r2*1;");
        due.is("14: none", x.done(), -9);
        x.step(1, 99);
        due.is("14: beyond 99", x.done(), 108);
        x.step(2, 4);
        due.is("14: the last in the row", x.done(), 6);
        due.is("14: -9 is no refusal", x.count(11) + x.count(13), 0);
    }

    private void promise15Where() {
        IntoTheCorner x = Due.houseOf(CORRIDOR);
        due.is("15: in the yard", x.where(0), 0);
        due.is("15: no step", x.where(1), -1);
        due.is("15: below", x.where(-1), -1);
        x.step(2, 0);
        due.is("15: the least beside", x.where(1), 1);
        x.step(1, 2);
        due.is("15: into the yard", x.where(2), 0);
        x.step(3, 3);
        due.is("15: room 2 is WET at 7, he stays", x.where(3), 3);
        due.is("15: behind two as before", x.where(2), 0);
        x.planks(4);
        due.is("15: by planks into room 2", x.where(3), 2);
        due.is("15: behind none still in the yard", x.where(0), 0);
        due.is("15: behind the last", x.where(4), -1);
        due.is("15: refusals", x.count(11), 3);
    }

    private void promise16Soonest() {
        IntoTheCorner x = new IntoTheCorner();
        due.is("16: no ROOMS", x.soonest(), -3);
        Due.house(x, "r1*2;r1*2;r1*2;d01;d02;d03;");
        due.is("16: six coats", x.soonest(), 12);
        Due.house(x, "r1*1;");
        due.is("16: seven", x.soonest(), -6);
        due.is("16: the plan stays", x.count(3), 6);
        due.is("16: refusals", x.count(13) * 10 + x.count(16), 11);
        IntoTheCorner y = planned("r1*1;", 1, 33);
        due.is("16: none, no door", y.soonest(), -9);
        due.is("16: the plan stays", y.stepOf(0, 1), 33);
        IntoTheCorner z = Due.houseOf("r5*1;d01;n01@0-60;");
        due.is("16: the need bars all hours to 60", z.soonest(), -9);
        IntoTheCorner w = Due.houseOf("r5*1;d01;n01@0-59;");
        due.is("16: hour 60 is the last", w.soonest(), 65);
        due.is("16: it is the plan", w.stepOf(0, 1), 60);
        IntoTheCorner v = Due.houseOf("r5*1;d01;n01@10-11;");
        due.is("16: WET when it is asked for, so behind it", v.soonest(), 17);
        v.set(0, 5);
        due.is("16: dry just in time", v.soonest(), 5);
        IntoTheCorner late = Due.houseOf("r5*2;d01;");
        late.set(2, 7);
        due.is("16: LATE ahead of dry", late.soonest(), -9);
        late.set(2, 8);
        due.is("16: just then", late.soonest(), 18);
        late.set(1, 24);
        late.set(0, 24);
        late.set(2, 48);
        due.is("16: dry at 53", late.soonest(), 58);
        due.is("16: a need at hour 0", Due.houseOf("r1*1;d01;n01@0-0;").soonest(), 2);
        IntoTheCorner barred = Due.houseOf("r1*1;r1*1;d01;n02@99-99;");
        due.is("16: a need without any way", barred.soonest(), -9);
    }

    private void promise16SoonestOrders() {
        // Behind room 1 he is in the yard, and room 2 waits for it to be walked again: from behind is sooner.
        IntoTheCorner x = Due.houseOf("r2*1;r2*1;d01;d12;");
        due.is("16: from behind", x.soonest(), 4);
        due.is("16: room 2 first", x.stepOf(0, 0), 2);
        due.is("16: then room 1", x.stepOf(1, 0), 1);
        due.is("16: at once", x.stepOf(1, 1), 2);
        due.is("16: nothing is wrong", x.judged(0), -9);
        IntoTheCorner y = Due.houseOf("r2*1;r2*1;d01;d02;");
        due.is("16: either way", y.soonest(), 4);
        due.is("16: the first by ROOMS", y.stepOf(0, 0), 1);
        IntoTheCorner z = Due.houseOf("r4*2;r1*1;r2*1;d01;d02;d03;");
        due.is("16: others while it dries", z.soonest(), 16);
        due.is("16: 1 2 3 1", z.stepOf(0, 0) * 1000 + z.stepOf(1, 0) * 100 + z.stepOf(2, 0) * 10 + z.stepOf(3, 0), 1231);
        due.is("16: at 12", z.stepOf(3, 1), 12);
        z.step(1, 90);
        due.is("16: again, in place of the plan", z.soonest(), 16);
        due.is("16: four steps", z.count(3), 4);
        // In a ring he needs a way out: rooms 1 and 2 stand between the yard and 3.
        IntoTheCorner ring = Due.houseOf("r3*1;r3*1;r3*1;d01;d02;d13;d23;");
        due.is("16: a ring", ring.soonest(), 9);
        due.is("16: the inner one ahead of the second", ring.stepOf(1, 0), 3);
        due.is("16: the first", ring.stepOf(0, 0), 1);
        IntoTheCorner all = Due.houseOf("r1*2;r1*1;r1*1;r1*1;r1*1;d01;d12;d23;d34;d45;");
        due.is("16: a row of five", all.soonest(), 12);
        due.is("16: room 1 first", all.stepOf(0, 0), 1);
    }

    private void promise17Fewest() {
        IntoTheCorner x = new IntoTheCorner();
        due.is("17: no ROOMS goes first", x.fewest(-1), -3);
        Due.house(x, "r2*2;r2*1;r1*1;d01;d12;");
        due.is("17: below", x.fewest(-1), -4);
        due.is("17: above", x.fewest(100), -6);
        due.is("17: none, a room without door", x.fewest(99), -9);
        Due.house(x, "d13;");
        x.step(1, 77);
        x.planks(8);
        // Room 1 at 0 and, dry, from 10 on; rooms 2 and 3 behind it take three hours, from 8 on without planks.
        due.is("17: no planks", x.fewest(13), 0);
        due.is("17: room 1 first, the others over its planks", x.fewest(12), 2);
        due.is("17: not by 11", x.fewest(11), -9);
        due.is("17: the plan stays", x.stepOf(0, 1), 77);
        due.is("17: one step", x.count(3), 1);
        due.is("17: the planks stay", x.planks(0), 8);
        due.is("17: refusals", x.count(13) * 100 + x.count(14) * 10 + x.count(16), 111);
        Due.house(x, "r1*2;");
        due.is("17: six coats", x.fewest(99), -9);
        Due.house(x, "r1*1;");
        due.is("17: seven", x.fewest(99), -6);
        due.is("17: -4 ahead of it", x.fewest(-1), -4);
        due.is("17: refusals at last", x.count(13) * 100 + x.count(14) * 10 + x.count(16), 122);
        twoSetsOfPlanks();
    }

    private void twoSetsOfPlanks() {
        IntoTheCorner x = Due.houseOf("r1*1;r1*1;r1*1;d01;d02;d13;d23;", "n03@1-60;");
        // At hour 0 nobody asks for room 3 yet; rooms 1 and 2 take turns.
        due.is("17: room 3 must be walked while it is WET", x.fewest(99), 8);
        due.is("17: 3, 1 at 1, 2 at 8", x.fewest(9), 8);
        due.is("17: 3 and then 2 as soon as 1 is PAINTED no more", x.fewest(3), 10);
        due.is("17: three hours of work", x.fewest(2), -9);
        IntoTheCorner y = Due.houseOf("r1*1;r1*1;d01;d02;d12;", "n02@1-6;");
        due.is("17: room 2 at hour 0 needs planks", y.fewest(2), 4);
        due.is("17: room 2 later", y.fewest(8), 0);
        due.is("17: hour 0", y.fewest(0), -9);
    }

    private void promise18Cuts() {
        due.is("18: no ROOMS", new IntoTheCorner().cuts(), 0);
        due.is("18: no needs", Due.houseOf(CORRIDOR).cuts(), 0);
        due.is("18: between and at the end", Due.houseOf(CORRIDOR + "n02@5-6;").cuts(), 6);
        due.is("18: both ends", Due.houseOf(CORRIDOR + "n32@5-6;").cuts(), 12);
        due.is("18: two ways", Due.houseOf("r1*1;r1*1;r1*1;d01;d02;d13;d23;n03@1-1;").cuts(), 8);
        due.is("18: no way at all", Due.houseOf("r1*1;r1*1;r1*1;d01;n02@1-1;").cuts(), 14);
        due.is("18: two needs", Due.houseOf("r1*1;r1*1;r1*1;d01;d02;d03;n01@1-1;n03@1-1;").cuts(), 10);
        IntoTheCorner x = planned("r1*1;r1*1;d01;d02;n01@0-1;", 2, 0);
        due.is("18: the plan does not matter", x.cuts(), 2);
        x.planks(2);
        due.is("18: nor planks", x.cuts(), 2);
    }

    private void promise19Way() {
        IntoTheCorner x = planned(CORRIDOR, 2, 10);
        due.is("19: three doors", x.way(0, 3, 9), 3);
        due.is("19: back", x.way(3, 0, 9), 3);
        due.is("19: to itself", x.way(2, 2, 9), 0);
        due.is("19: PAINTED", x.way(0, 3, 10), -9);
        due.is("19: to a SHUT one", x.way(1, 2, 10), -9);
        due.is("19: from a SHUT one", x.way(2, 1, 17), -9);
        due.is("19: from a SHUT one to itself", x.way(2, 2, 10), -9);
        due.is("19: up to it", x.way(0, 1, 10), 1);
        due.is("19: TACKY", x.way(0, 3, 18), 3);
        x.planks(4);
        due.is("19: WET with planks", x.way(0, 3, 12), 3);
        due.is("19: PAINTED with planks", x.way(0, 3, 11), -9);
        due.is("19: no from", x.way(4, 0, -1), -1);
        due.is("19: no to", x.way(0, 4, 100), -1);
        due.is("19: below", x.way(0, 3, -1), -4);
        due.is("19: above", x.way(0, 3, 100), -6);
        due.is("19: hour 99", x.way(0, 3, 99), 3);
        Due.house(x, "d03;");
        due.is("19: the shorter one", x.way(0, 2, 30), 2);
        due.is("19: a door", x.way(0, 3, 11), 1);
        due.is("19: -9 is no refusal", x.count(11) * 100 + x.count(14) * 10 + x.count(16), 211);
        due.is("19: five doors", Due.houseOf("r1*1;r1*1;r1*1;r1*1;r1*1;d01;d12;d23;d34;", "d45;").way(0, 5, 0), 5);
        due.is("19: no doors", Due.houseOf("r1*1;").way(0, 1, 0), -9);
    }

    private void promise20Free() {
        IntoTheCorner x = planned(CORRIDOR, 2, 10, 3, 12);
        due.is("20: all", x.free(9), 15);
        due.is("20: PAINTED", x.free(10), 11);
        due.is("20: WET and PAINTED", x.free(12), 3);
        due.is("20: WET at last", x.free(17), 3);
        due.is("20: TACKY", x.free(18), 7);
        due.is("20: room 3, WET at last", x.free(21), 7);
        due.is("20: all again", x.free(22), 15);
        x.planks(4);
        due.is("20: planks", x.free(12), 7);
        x.planks(8);
        due.is("20: planks do not help while it is PAINTED", x.free(15), 3);
        due.is("20: but behind that", x.free(16), 11);
        x.set(0, 1);
        due.is("20: WET for an hour", x.free(13), 7);
        due.is("20: below", x.free(-1), -4);
        due.is("20: above", x.free(100), -6);
        due.is("20: 99", x.free(99), 15);
        due.is("20: refusals", x.count(14) * 10 + x.count(16), 11);
    }

    private void promise21Out() {
        String[] floors = {"d", "d.", ".d", "d..", ".d.", "d#.", "d./..", "../.d", "d../...", "d.../....", ".../.d./...",
            "d..../.....", "#.#/.d./#.#", "..../.##d/....", "d/./././", "d/./././.", "d.#/##.", "##./d#.", "...../#.#d#/#.#.#",
            "d.#.#/.....", "###/#d#/###", ".../.#d/..."};
        int[] moves = {0, 2, 2, 4, 4, -9, 4, 4, 6, 8, 10,
            10, 8, 10, 99, 8, -9, -9, 16,
            12, 0, 8};
        for (int i = 0; i < floors.length; i++) {
            IntoTheCorner x = new IntoTheCorner();
            if (Due.floor(x, floors[i]) > 0) {
                due.is("21: " + floors[i], x.out(), moves[i]);
                due.is("21: again " + floors[i], x.out(), moves[i]);
            } else {
                due.is("21: no floor, " + floors[i], x.out(), -3);
            }
        }
        IntoTheCorner x = new IntoTheCorner();
        x.out();
        Due.floor(x, "d..");
        due.is("21: three", x.out(), 4);
        Due.floor(x, "d.");
        due.is("21: a smaller one behind it", x.out(), 2);
        due.is("21: refusals", x.count(13), 1);
    }

    private void promise22Square() {
        IntoTheCorner x = new IntoTheCorner();
        due.is("22: no floor", x.square(0, 0), -3);
        due.is("22: no floor goes first", x.square(-1, 9), -3);
        Due.floor(x, "#.#/d.#");
        due.is("22: none", x.square(0, 0), 0);
        due.is("22: floor", x.square(0, 1), 1);
        due.is("22: the door", x.square(1, 0), 2);
        due.is("22: none", x.square(1, 2), 0);
        due.is("22: no such row", x.square(2, 0), -1);
        due.is("22: no such column", x.square(0, 3), -1);
        due.is("22: row below", x.square(-1, 0), -1);
        due.is("22: column below", x.square(0, -1), -1);
        due.is("22: far", x.square(Integer.MAX_VALUE, Integer.MIN_VALUE), -1);
        due.is("22: refusals", x.count(11) * 10 + x.count(13), 52);
    }

    private void promise23And24Image() {
        IntoTheCorner x = Due.houseOf("r3*1;r2*2;d01;n01@40-50;");
        due.is("24: none yet", x.on(), -3);
        for (int what = 0; what < 4; what++) {
            x.set(what, 3);
        }
        x.planks(2);
        x.step(1, 5);
        Due.floor(x, "d.");
        Due.feed(x, "abc");
        due.is("23: rooms", x.image(), 2);
        Due.feed(x, "d");
        changeAll(x);
        due.is("24: rooms as then", x.on(), 2);
        lookAtImage(x);
        due.is("24: the tape is as it is now", x.count(5), 2);
        due.is("24: refusals are as they are now", x.count(11), 1);
        changeAll(x);
        due.is("24: once more", x.on(), 2);
        lookAtImage(x);
        x.house();
        Due.house(x, "r1*1;");
        due.is("23: another image in its place", x.image(), 3);
        x.clear();
        due.is("24: on from that", x.on(), 3);
        due.is("24: its step", x.count(3), 1);
        IntoTheCorner y = new IntoTheCorner();
        due.is("23: of nothing", y.image(), 0);
        Due.house(y, "r1*1;d01;");
        Due.floor(y, "d");
        due.is("24: nothing again", y.on(), 0);
        due.is("24: no ROOM", y.count(0) + y.count(1), 0);
        due.is("24: no floor", y.out(), -3);
        due.is("24: the first room again", Due.house(y, "r5*2;d01;"), 2);
        due.is("24: its work", y.room(1, 0), 5);
    }

    private static void changeAll(IntoTheCorner x) {
        x.house();
        x.room(9, 0);
        Due.house(x, "r9*1;d02;d13;n23@1-2;");
        x.set(0, 9);
        x.set(1, 9);
        x.set(2, 9);
        x.set(3, 1);
        x.planks(12);
        x.clear();
        x.step(3, 1);
        x.step(2, 2);
        Due.floor(x, "..d");
        x.feed(2, 0);
    }

    private void lookAtImage(IntoTheCorner x) {
        due.is("24: rooms", x.count(0), 2);
        due.is("24: work and coats", x.room(2, 0) * 10 + x.room(2, 1), 22);
        due.is("24: doors", x.count(1), 1);
        due.is("24: the door", x.door(0, 1) * 10 + x.door(0, 2), 10);
        due.is("24: needs", x.count(2), 1);
        due.is("24: the need", x.need(0, 3), 50);
        for (int what = 0; what < 4; what++) {
            due.is("24: set " + what, x.set(what, 3), 3);
        }
        due.is("24: planks", x.planks(2), 2);
        due.is("24: steps", x.count(3), 1);
        due.is("24: the step", x.stepOf(0, 0) * 100 + x.stepOf(0, 1), 105);
        due.is("24: out", x.out(), 2);
        due.is("24: ways", x.way(0, 2, 99), -9);
        due.is("24: cuts", x.cuts(), 2);
        due.is("24: judged", x.judged(0), 99);
        due.is("24: free", x.free(5), 5);
    }

    private void promise25Count() {
        IntoTheCorner x = Due.houseOf("r9*2;r2*1;r1*2;d01;d12;n01@0-9;");
        x.step(1, 1);
        x.feed(3, 0);
        int[] due0To5 = {3, 2, 1, 1, 5, 3};
        for (int what = 0; what <= 5; what++) {
            due.is("25: " + what, x.count(what), due0To5[what]);
        }
        x.room(9, 0);
        x.set(9, 0);
        x.set(9, 0);
        x.on();
        x.on();
        x.on();
        for (int i = 0; i < 4; i++) {
            x.free(-1);
        }
        for (int i = 0; i < 6; i++) {
            x.free(100);
        }
        int[] refusals = {1, 2, 3, 4, 0, 6};
        for (int what = 11; what <= 16; what++) {
            due.is("25: " + what, x.count(what), refusals[what - 11]);
        }
        int[] others = {-1, 6, 7, 10, 17, Integer.MAX_VALUE, Integer.MIN_VALUE};
        for (int what : others) {
            due.is("25: " + what, x.count(what), -9);
        }
        due.is("25: -9 is no refusal", x.count(11) + x.count(12), 3);
    }
}
