/** Promise 13: what is WRONG, from its first hour to its last, and what goes ahead of what. */
final class JudgedBoundaries extends Boundaries {
    private static final int NOTHING = -9;

    /** Room 2 is to be come to through room 1 alone. */
    private static final String LINE = "r2*1;r1*1;d01;d12;";
    /** The yard, 3, 2, 1: out of room 2 he goes into room 1, the least beside it. */
    private static final String CORNER = "*1;r1*1;r1*1;d03;d32;d21;";

    private void judged(String what, IntoTheCorner x, int hour, int thing) {
        is(what + ", hour", x.judged(0), hour);
        is(what + ", thing", x.judged(1), thing);
    }

    private void right(String what, IntoTheCorner x) {
        judged(what, x, NOTHING, NOTHING);
    }

    void promise13_whatBelowAndAbove() {
        IntoTheCorner x = house("r1*1;");
        for (int what : new int[] {-1, 2, LOWEST, HIGHEST}) is("what " + what, x.judged(what), -2);
        is(x.count(12), 4);
    }

    void promise13_nothingIsNoRefusal() {
        IntoTheCorner x = yard();
        right("no rooms", x);
        is(allRefusals(x), 0);
    }

    // ---- 1: he can not come there

    void promise13_thing1_whileARoomBetweenIsPaintedOrWet() {
        // Room 1 is PAINTED at 0 and 1, WET from 2 to 7, TACKY at 8 and 9.
        for (int hour = 0; hour <= 7; hour++) judged("at " + hour, planned(LINE, 1, 0, 2, hour), hour, 1);
    }

    void promise13_thing1_tackyIsNoBar() {
        right("at 8", planned(LINE, 1, 0, 2, 8));
        right("at 9", planned(LINE, 1, 0, 2, 9));
    }

    void promise13_thing1_planksHelpFromTheFirstWetHour() {
        IntoTheCorner painted = planned(LINE, 1, 0, 2, 1);
        painted.planks(2);
        judged("at 1", painted, 1, 1);
        IntoTheCorner wet = planned(LINE, 1, 0, 2, 2);
        wet.planks(2);
        right("at 2", wet);
    }

    void promise13_thing1_planksOfAnotherRoomDoNotHelp() {
        IntoTheCorner x = planned(LINE, 1, 0, 2, 7);
        x.planks(4);
        judged("at 7", x, 7, 1);
    }

    void promise13_thing1_noDoorAtAll() {
        judged("at 0", planned("r1*1;", 1, 0), 0, 1);
        judged("at 99", planned("r1*1;", 1, 99), 99, 1);
    }

    void promise13_thing1_aRoomIsNotBarredByItsOwnCoat() {
        right("at 0", planned("r9*1;d01;", 1, 0));
        right("at 99", planned("r9*1;d01;", 1, 99));
    }

    void promise13_thing1_aStepBehindItDoesNotBar() {
        judged("room 1 at the same hour, behind", planned(LINE, 2, 5, 1, 5), 5, 6);
    }

    void promise13_thing1_fromWhereHeIs() {
        // He is in room 1 behind room 2, which is WET until 6.
        judged("at 6", planned("r1" + CORNER, 2, 0, 3, 6, 1, 30), 6, 1);
        right("at 7", planned("r1" + CORNER, 2, 0, 3, 7, 1, 30));
    }

    void promise13_thing1_itIsDoneAllTheSame() {
        IntoTheCorner x = planned("r1*1;", 1, 5);
        judged("at 5", x, 5, 1);
        is(x.free(5), 1);
        is(x.done(), 6);
    }

    // ---- 2: he is shut in

    void promise13_thing2_whileTheRoomBesideIsWet() {
        // Room 2 is done at 1 and WET from 1 to 6. Room 1 begins at 1.
        for (int work = 1; work <= 5; work++) {
            judged("done at " + (1 + work), planned("r" + work + CORNER, 2, 0, 1, 1, 3, 50), 1 + work, 2);
        }
    }

    void promise13_thing2_tackyIsOpen() {
        IntoTheCorner x = planned("r6" + CORNER, 2, 0, 1, 1, 3, 50);
        right("done at 7", x);
        is(x.where(2), 2);
    }

    void promise13_thing2_planksLetHimOut() {
        IntoTheCorner x = planned("r1" + CORNER, 2, 0, 1, 1, 3, 50);
        x.planks(2);
        judged("planks in his own room", x, 2, 2);
        x.planks(4);
        right("planks beside it", x);
    }

    void promise13_thing2_heStaysThere() {
        IntoTheCorner x = planned("r1" + CORNER, 2, 0, 1, 1, 3, 50);
        is(x.where(2), 1);
        is(x.where(3), 0);
    }

    void promise13_thing2_aStepBehindItDoesNotShutHimIn() {
        right("from behind to the front", planned(LINE, 2, 0, 1, 1));
    }

    void promise13_thing2_atNinetyNineGoesAheadOf8() {
        IntoTheCorner x = planned("r5" + CORNER, 2, 93, 1, 94);
        judged("done at 99", x, 99, 2);
    }

    void promise13_thing2_atAHundredGoesBehind8() {
        IntoTheCorner x = planned("r5" + CORNER, 2, 94, 1, 95);
        judged("done at 100, room 3 lacks its coat", x, 99, 8);
    }

    void promise13_thing2_beyondNinetyNineAtItsOwnHour() {
        judged("done at 100", planned("r5" + CORNER, 3, 0, 2, 94, 1, 95), 100, 2);
    }

    // ---- 3: a NEED fails

    private static IntoTheCorner needed(String hours) {
        // Room 1 takes hour 20 and is WET from 21 to 26.
        return planned("r1*1;d01;n01@" + hours + ";", 1, 20);
    }

    void promise13_thing3_theFirstHourThatIsShut() {
        judged("20", needed("20-20"), 20, 3);
        judged("0-20", needed("0-20"), 20, 3);
        right("19", needed("19-19"));
        right("0-19", needed("0-19"));
    }

    void promise13_thing3_theLastHourThatIsShut() {
        judged("26", needed("26-26"), 26, 3);
        judged("26-99", needed("26-99"), 26, 3);
        right("27", needed("27-27"));
        right("27-99", needed("27-99"));
    }

    void promise13_thing3_theFirstHourOfBoth() {
        judged("22-24", needed("22-24"), 22, 3);
        judged("0-99", needed("0-99"), 20, 3);
    }

    void promise13_thing3_withPlanksOnlyWhilePainted() {
        IntoTheCorner painted = needed("20-26");
        painted.planks(2);
        judged("20-26", painted, 20, 3);
        IntoTheCorner wet = needed("21-26");
        judged("21-26", wet, 21, 3);
        wet.planks(2);
        right("21-26 with planks", wet);
    }

    void promise13_thing3_atHourZero() {
        judged("0", planned("r1*1;d01;n01@0-0;", 1, 0), 0, 3);
        right("0, begun at 1", planned("r1*1;d01;n01@0-0;", 1, 1));
    }

    void promise13_thing3_atHourNinetyNine() {
        judged("99", planned("r1*1;d01;n01@99-99;", 1, 99), 99, 3);
        judged("WET at 99", planned("r1*1;d01;n01@99-99;", 1, 93), 99, 3);
        right("dry at 99", planned("r1*1;d01;n01@99-99;", 1, 92));
    }

    void promise13_thing3_eitherEndAndBetween() {
        String line = "r1*1;r1*1;r1*1;d01;d12;d23;";
        judged("from", planned(line + "n13@20-20;", 2, 0, 3, 7, 1, 20), 20, 3);
        judged("to", planned(line + "n31@20-20;", 2, 0, 3, 7, 1, 20), 20, 3);
        judged("between", planned(line + "n13@20-20;", 1, 0, 3, 7, 2, 20), 20, 3);
        right("beside", planned(line + "n23@20-20;", 2, 0, 3, 8, 1, 20));
    }

    void promise13_thing3_noWayAtAll() {
        judged("its first hour", planned("r1*1;n01@7-9;"), 7, 3);
        judged("99", planned("r1*1;n01@99-99;"), 99, 3);
    }

    void promise13_thing3_byAllSteps() {
        judged("the last one shuts it", planned(LINE + "n02@40-40;", 2, 0, 1, 40), 40, 3);
        judged("the first one shuts it", planned(LINE + "n02@0-0;", 2, 0, 1, 40), 0, 3);
    }

    void promise13_thing3_anotherWayIsEnough() {
        String ring = "r1*1;r1*1;r1*1;d01;d02;d13;d23;n03@20-26;";
        right("room 1 alone", planned(ring, 1, 20, 2, 30, 3, 40));
        judged("both", planned(ring, 1, 20, 2, 21, 3, 40), 21, 3);
    }

    void promise13_thing3_theFirstOfTwoNeeds() {
        judged("the second in the row", planned("r1*1;d01;n01@24-24;n01@22-22;", 1, 20), 22, 3);
    }

    void promise13_thing3_theEighthNeed() {
        IntoTheCorner x = house("r1*1;d01;n01@0-0;n01@0-0;n01@0-0;n01@0-0;", "n01@0-0;n01@0-0;n01@0-0;n01@26-26;");
        x.step(1, 20);
        judged("26", x, 26, 3);
    }

    // ---- 4: it is not dry

    private static IntoTheCorner twice(int second) {
        // Two hours of work, WET from 2 to 7, TACKY at 8 and 9.
        return planned("r2*2;d01;", 1, 0, 1, second);
    }

    void promise13_thing4_tackyFromItsFirstHourToItsLast() {
        judged("at 8", twice(8), 8, 4);
        judged("at 9", twice(9), 9, 4);
        right("at 10", twice(10));
    }

    void promise13_thing4_behindACoatOfALaterHour() {
        judged("at 29", planned("r2*2;d01;", 1, 20, 1, 29), 29, 4);
        right("at 30", planned("r2*2;d01;", 1, 20, 1, 30));
        judged("at 99", planned("r2*2;d01;", 1, 90, 1, 99), 99, 4);
    }

    void promise13_thing4_wetWithPlanks() {
        for (int hour = 2; hour <= 7; hour++) {
            IntoTheCorner x = twice(hour);
            judged("no planks at " + hour, x, hour, 1);
            x.planks(2);
            judged("planks at " + hour, x, hour, 4);
        }
    }

    void promise13_thing4_paintedStillHeCanNotComeEither() {
        for (int hour = 0; hour <= 1; hour++) {
            IntoTheCorner x = twice(hour);
            x.planks(2);
            judged("at " + hour, x, hour, 1);
        }
    }

    void promise13_thing4_noTacky() {
        IntoTheCorner x = twice(8);
        x.set(1, 0);
        right("at 8", x);
        IntoTheCorner wet = twice(7);
        wet.set(1, 0);
        wet.planks(2);
        judged("at 7", wet, 7, 4);
    }

    void promise13_thing4_theLongestWetAndTacky() {
        IntoTheCorner x = twice(49);
        x.set(0, 24);
        x.set(1, 24);
        judged("at 49", x, 49, 4);
        IntoTheCorner y = twice(50);
        y.set(0, 24);
        y.set(1, 24);
        right("at 50", y);
    }

    void promise13_thing4_moreHandsMakeItDrySooner() {
        IntoTheCorner x = twice(9);
        x.set(3, 2);
        right("at 9", x);
    }

    void promise13_thing4_byStepsAheadAlone() {
        judged("the one at 5 is behind", planned("r2*2;d01;", 1, 8, 1, 5), 5, 6);
    }

    void promise13_thing4_anotherRoomDoesNotMatter() {
        right("room 2", planned("r2*1;r2*1;d01;d02;", 1, 0, 2, 2));
    }

    // ---- 5: too LATE

    void promise13_thing5_justLateIsNotTooLate() {
        right("at 50", twice(50));
        judged("at 51", twice(51), 51, 5);
    }

    void promise13_thing5_behindACoatOfALaterHour() {
        right("at 70", planned("r2*2;d01;", 1, 20, 1, 70));
        judged("at 71", planned("r2*2;d01;", 1, 20, 1, 71), 71, 5);
    }

    void promise13_thing5_theLeastLate() {
        for (int hour = 3; hour <= 4; hour++) {
            IntoTheCorner x = twice(hour);
            x.set(0, 1);
            x.set(1, 0);
            x.set(2, 1);
            judged("at " + hour, x, hour == 3 ? NOTHING : 4, hour == 3 ? NOTHING : 5);
        }
    }

    void promise13_thing5_theMostLate() {
        IntoTheCorner x = planned("r1*2;d01;", 1, 0, 1, 99);
        judged("LATE 48", x, 99, 5);
        x.set(2, 97);
        judged("LATE 97", x, 99, 5);
        x.set(2, 98);
        right("LATE 98", x);
        x.set(2, 99);
        right("LATE 99", x);
    }

    void promise13_thing5_theFirstCoatIsNeverTooLate() {
        IntoTheCorner x = planned("r1*1;d01;", 1, 99);
        x.set(2, 1);
        right("at 99", x);
    }

    void promise13_thing5_anotherRoomDoesNotMatter() {
        IntoTheCorner x = planned("r1*1;r1*1;d01;d02;", 1, 0, 2, 99);
        x.set(2, 1);
        right("room 2", x);
    }

    void promise13_thing5_fromTheCoatJustAhead() {
        judged("the third, 28 behind the second", planned("r2*2;d01;", 1, 0, 1, 40, 1, 70), 70, 7);
        judged("the third, 49 behind the second", planned("r2*2;d01;", 1, 0, 1, 40, 1, 91), 91, 5);
        judged("the third, 48 behind the second", planned("r2*2;d01;", 1, 0, 1, 40, 1, 90), 90, 7);
    }

    // ---- 6: he is not done

    void promise13_thing6_theHourAtWhichHeIsDone() {
        right("at 2", planned("r2*1;r1*1;d01;d02;", 1, 0, 2, 2));
        judged("at 1", planned("r2*1;r1*1;d01;d02;", 1, 0, 2, 1), 1, 6);
        judged("at 0", planned("r2*1;r1*1;d01;d02;", 1, 0, 2, 0), 0, 6);
    }

    void promise13_thing6_theLongestWork() {
        right("at 9", planned("r9*1;r1*1;d01;d02;", 1, 0, 2, 9));
        judged("at 8", planned("r9*1;r1*1;d01;d02;", 1, 0, 2, 8), 8, 6);
    }

    void promise13_thing6_aStepLongAheadOfTheOneAheadInTheRow() {
        judged("at 0", planned("r2*1;r1*1;d01;d02;", 1, 99, 2, 0), 0, 6);
    }

    void promise13_thing6_theFirstStepIsNeverTooSoon() {
        right("at 0", planned("r2*1;d01;", 1, 0));
    }

    void promise13_thing6_atNinetyNine() {
        judged("99", planned("r2*1;r1*1;d01;d02;", 1, 98, 2, 99), 99, 6);
        right("97 and 99", planned("r2*1;r1*1;d01;d02;", 1, 97, 2, 99));
    }

    // ---- 7 and 8: more and fewer coats

    void promise13_thing7_oneMoreThanTold() {
        judged("the second of one", planned("r1*1;d01;", 1, 0, 1, 20), 20, 7);
        right("the second of two", planned("r1*2;d01;", 1, 0, 1, 20));
        judged("the third of two", planned("r1*2;d01;", 1, 0, 1, 20, 1, 40), 40, 7);
    }

    void promise13_thing7_theEighth() {
        judged("the second at 9", planned("r1*1;d01;", 1, 0, 1, 9, 1, 18, 1, 27, 1, 36, 1, 45, 1, 54, 1, 63), 9, 7);
    }

    void promise13_thing7_anotherRoomIsNotCounted() {
        right("1 and 2", planned("r1*1;r1*1;d01;d02;", 1, 0, 2, 20));
    }

    void promise13_thing8_noStepsAtAll() {
        judged("one room", house("r1*1;"), 99, 8);
    }

    void promise13_thing8_oneFewerThanTold() {
        judged("the second lacks", planned("r1*2;d01;", 1, 0), 99, 8);
        judged("the first room lacks", planned("r1*1;r1*1;d01;d02;", 2, 0), 99, 8);
        judged("the last room lacks", planned("r1*1;r1*1;d01;d02;", 1, 0), 99, 8);
    }

    void promise13_thing8_theFifthRoom() {
        judged("it lacks", planned("r1*1;r1*1;r1*1;r1*1;r1*1;d01;d02;d03;d04;", 1, 0, 2, 1, 3, 2, 4, 3), 99, 8);
    }

    void promise13_thing8_aRoomThatComesLater() {
        IntoTheCorner x = planned("r1*1;d01;", 1, 0);
        right("one room", x);
        Due.house(x, "r1*1;");
        judged("two rooms", x, 99, 8);
    }

    // ---- the least hour, then the least thing

    void promise13_theLeastHourGoesAheadOfTheLeastThing() {
        judged("7 at 10, 1 at 30", planned("r1*1;r1*1;d01;", 1, 0, 1, 10, 2, 30), 10, 7);
        judged("3 at 9, 1 at 10", planned("r1*1;r1*1;d01;n02@9-9;", 1, 0, 2, 10), 9, 3);
        judged("8 at 99, 2 at 100", planned("r5" + CORNER, 2, 94, 1, 95), 99, 8);
    }

    void promise13_1goesAheadOf2() {
        judged("at 6", planned("r5" + CORNER, 2, 0, 1, 1, 3, 6), 6, 1);
    }

    void promise13_1goesAheadOf4And6() {
        judged("at 0", planned("r2*2;d01;", 1, 0, 1, 0), 0, 1);
    }

    void promise13_1goesAheadOf3() {
        judged("at 10", planned("r1*1;n01@10-10;", 1, 10), 10, 1);
    }

    void promise13_2goesAheadOf3() {
        judged("at 6", planned("r5" + CORNER + "n02@6-6;", 2, 0, 1, 1, 3, 50), 6, 2);
    }

    void promise13_2goesAheadOf4And7() {
        IntoTheCorner x = planned("r1" + CORNER, 2, 0, 1, 1, 1, 2, 3, 50);
        x.planks(2);
        judged("at 2", x, 2, 2);
    }

    void promise13_3goesAheadOf4() {
        judged("at 9", planned("r2*2;d01;n01@9-9;", 1, 0, 1, 9), 9, 3);
    }

    void promise13_3goesAheadOf8() {
        judged("at 99", planned("r1*1;n01@99-99;"), 99, 3);
    }

    void promise13_4goesAheadOf5() {
        IntoTheCorner x = twice(9);
        x.set(2, 6);
        judged("at 9", x, 9, 4);
    }

    void promise13_4goesAheadOf7() {
        judged("at 9", planned("r2*1;d01;", 1, 0, 1, 9), 9, 4);
    }

    void promise13_5goesAheadOf6() {
        judged("at 60", planned("r1*2;r9*1;d01;d02;", 1, 0, 2, 55, 1, 60), 60, 5);
    }

    void promise13_5goesAheadOf7() {
        judged("at 60", planned("r1*1;d01;", 1, 0, 1, 60), 60, 5);
    }

    void promise13_6goesAheadOf7() {
        judged("at 45", planned("r1*1;r9*1;d01;d02;", 1, 0, 2, 40, 1, 45), 45, 6);
    }

    void promise13_7goesAheadOf8() {
        judged("at 99", planned("r1*1;r1*1;d01;d02;", 1, 60, 1, 99), 99, 7);
    }
}
