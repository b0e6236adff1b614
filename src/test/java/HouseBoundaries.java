/** Promise 3: a HOUSE from a text, and its FAULTS. */
final class HouseBoundaries extends Boundaries {
    private static final String ALL = "r1*2;d01;n01@12-34;";
    private static final String FIVE_ROOMS = "r1*1;r1*1;r1*1;r1*1;r1*1;";

    private static String changed(String text, int at, int sign) {
        return text.substring(0, at) + (char) sign + text.substring(at + 1);
    }

    private static boolean isDigit(char sign) {
        return sign >= '0' && sign <= '9';
    }

    // ---- kind 1

    void promise3_anEmptyTextLacksAStatement() {
        is(yard().house(), -1000);
        is(house("r1*1;").house(), -1000);
    }

    void promise3_oneStatementIsEnough() {
        is(read("r1*1;"), 1);
        is(Due.house(house("r1*1;"), "d01;"), 1);
        is(Due.house(house("r1*1;"), "n01@0-0;"), 1);
    }

    void promise3_theEndIfSomethingLacks() {
        for (int end = 0; end <= ALL.length(); end++) {
            int due = end == 5 ? 1 : end == 9 ? 2 : end == 19 ? 3 : -1000 - end;
            is("up to " + end, read(ALL.substring(0, end)), due);
        }
    }

    void promise3_theFirstByteThatCannotStandAnywhere() {
        for (int at = 0; at < ALL.length(); at++) {
            for (int sign : new int[] {'x', ' ', 0, 10, 255}) {
                is("sign " + sign + " at " + at, read(changed(ALL, at, sign)), -1000 - at);
            }
        }
    }

    void promise3_signsBesideTheDigitsAreNone() {
        for (int at = 0; at < ALL.length(); at++) {
            if (isDigit(ALL.charAt(at))) {
                is("/ at " + at, read(changed(ALL, at, '0' - 1)), -1000 - at);
                is(": at " + at, read(changed(ALL, at, '9' + 1)), -1000 - at);
            }
        }
    }

    void promise3_theHighestBitMakesAnotherByte() {
        for (int at = 0; at < ALL.length(); at++) {
            is("at " + at, read(changed(ALL, at, ALL.charAt(at) | 128)), -1000 - at);
        }
    }

    void promise3_lettersAreSmall() {
        is(read(changed(ALL, 0, 'R')), -1000);
        is(read(changed(ALL, 5, 'D')), -1005);
        is(read(changed(ALL, 9, 'N')), -1009);
    }

    void promise3_aSignOfAnotherPlaceCannotStandEither() {
        for (int at = 0; at < ALL.length(); at++) {
            for (char sign : "rdn;*@-5".toCharArray()) {
                boolean fits = sign == ALL.charAt(at) || isDigit(sign) && isDigit(ALL.charAt(at));
                // "-" may stand behind one digit of an hour, ";" too, and then what follows cannot.
                boolean endsHour = at == 14 && sign == '-' || at == 17 && sign == ';';
                // Another letter at a statement's begin goes on as that statement.
                boolean begins = at == 0 || at == 5 || at == 9;
                if (!fits && !endsHour && !(begins && "rdn".indexOf(sign) >= 0)) {
                    is(sign + " at " + at, read(changed(ALL, at, sign)), -1000 - at);
                }
            }
        }
    }

    void promise3_workOfTwoDigits() {
        is(read("r11*1;"), -1002);
    }

    void promise3_coatsOfTwoDigits() {
        is(read("r1*11;"), -1004);
    }

    void promise3_aDoorOfOneDigit() {
        is(read("r1*1;d0;"), -1007);
    }

    void promise3_aDoorOfThreeDigits() {
        is(read("r1*1;d011;"), -1008);
    }

    void promise3_aNeedOfOneRoom() {
        is(read("r1*1;n0@1-2;"), -1007);
    }

    void promise3_aNeedOfThreeRooms() {
        is(read("r1*1;n010@1-2;"), -1008);
    }

    void promise3_hoursOfNoDigit() {
        is(read("r1*1;n01@-2;"), -1009);
        is(read("r1*1;n01@1-;"), -1011);
    }

    void promise3_hoursOfOneDigit() {
        IntoTheCorner x = house("r1*1;n01@3-7;");
        is(x.need(0, 2), 3);
        is(x.need(0, 3), 7);
    }

    void promise3_hoursOfTwoDigits() {
        IntoTheCorner x = house("r1*1;n01@34-78;");
        is(x.need(0, 2), 34);
        is(x.need(0, 3), 78);
    }

    void promise3_hoursWithAZeroAhead() {
        IntoTheCorner x = house("r1*1;n01@00-09;");
        is(x.need(0, 2), 0);
        is(x.need(0, 3), 9);
    }

    void promise3_hoursOfThreeDigits() {
        is(read("r1*1;n01@100-2;"), -1011);
        is(read("r1*1;n01@001-2;"), -1011);
        is(read("r1*1;n01@1-100;"), -1013);
        is(read("r1*1;n01@1-002;"), -1013);
    }

    void promise3_aSecondEndOfAStatement() {
        is(read("r1*1;;"), -1005);
        is(read(";r1*1;"), -1000);
    }

    void promise3_fortyEightBytesThatLackTheLastEnd() {
        is(read("r1*1;r1*1;r1*1;r1*1;d01;d02;d03;d04;d12;d13;r1*1"), -1048);
    }

    void promise3_kind1GoesAheadOfKind2() {
        is(read("r0*1;x"), -1005);
        is(read("d11;d00;r1*"), -1011);
        is(read("r0*1"), -1004);
        is(read("d99"), -1003);
    }

    // ---- kind 2: numbers out of range

    void promise3_workZero() {
        is(read("r0*1;"), -2000);
    }

    void promise3_workOneAndNine() {
        IntoTheCorner x = house("r1*1;r9*1;");
        is(x.room(1, 0), 1);
        is(x.room(2, 0), 9);
    }

    void promise3_coatsZero() {
        is(read("r1*0;"), -2000);
    }

    void promise3_coatsOneAndTwo() {
        IntoTheCorner x = house("r1*1;r1*2;");
        is(x.room(1, 1), 1);
        is(x.room(2, 1), 2);
    }

    void promise3_coatsThreeAndMore() {
        for (int coats = 3; coats <= 9; coats++) is("coats " + coats, read("r1*" + coats + ";"), -2000);
    }

    void promise3_hoursZeroAndNinetyNine() {
        IntoTheCorner x = house("r1*1;n01@0-99;");
        is(x.need(0, 2), 0);
        is(x.need(0, 3), 99);
    }

    // ---- kind 2: rooms

    void promise3_aDoorOfTheYard() {
        is(Due.house(house("r1*1;"), "d01;"), 1);
        is(Due.house(house("r1*1;"), "d10;"), 1);
    }

    void promise3_aDoorOfTheLastRoom() {
        is(read("r1*1;r1*1;d12;"), 3);
        is(read("r1*1;r1*1;d21;"), 3);
        is(Due.house(house(FIVE_ROOMS), "d05;d54;"), 2);
    }

    void promise3_aDoorOfARoomBeyondTheLast() {
        is(read("r1*1;r1*1;d03;"), -2010);
        is(read("r1*1;r1*1;d30;"), -2010);
        is(Due.house(house(FIVE_ROOMS), "d06;"), -2000);
        is(Due.house(house(FIVE_ROOMS), "d60;"), -2000);
        is(Due.house(house(FIVE_ROOMS), "d09;"), -2000);
        is(Due.house(house(FIVE_ROOMS), "d90;"), -2000);
    }

    void promise3_aDoorInTheYardAlone() {
        is(read("d01;"), -2000);
        is(read("d10;"), -2000);
    }

    void promise3_aDoorAheadOfItsRoom() {
        is(read("d01;r1*1;"), -2000);
        is(read("r1*1;d02;r1*1;"), -2005);
    }

    void promise3_aNeedOfTheLastRoom() {
        is(read("r1*1;r1*1;n02@1-2;n20@1-2;"), 4);
        is(Due.house(house(FIVE_ROOMS), "n05@1-2;n50@1-2;"), 2);
    }

    void promise3_aNeedOfARoomBeyondTheLast() {
        is(read("r1*1;r1*1;n03@1-2;"), -2010);
        is(read("r1*1;r1*1;n30@1-2;"), -2010);
        is(Due.house(house(FIVE_ROOMS), "n06@1-2;"), -2000);
        is(Due.house(house(FIVE_ROOMS), "n90@1-2;"), -2000);
    }

    void promise3_aNeedAheadOfItsRoom() {
        is(read("n01@1-2;r1*1;"), -2000);
    }

    void promise3_oneRoomTwiceInADoor() {
        is(read("d00;"), -2000);
        is(read("r1*1;d00;"), -2005);
        is(read("r1*1;d11;"), -2005);
        is(Due.house(house(FIVE_ROOMS), "d55;"), -2000);
    }

    void promise3_oneRoomTwiceInANeed() {
        is(read("n00@1-2;"), -2000);
        is(read("r1*1;n11@1-2;"), -2005);
    }

    void promise3_aDoorThatIsThere() {
        is(read("r1*1;d01;d01;"), -2009);
        is(Due.house(house("r1*1;d01;"), "d01;"), -2000);
        is(Due.house(house(FIVE_ROOMS, "d45;"), "d45;"), -2000);
    }

    void promise3_aDoorThatIsThereTheOtherWayRound() {
        is(read("r1*1;d01;d10;"), -2009);
        is(Due.house(house("r1*1;d10;"), "d01;"), -2000);
        is(Due.house(house(FIVE_ROOMS, "d45;"), "d54;"), -2000);
    }

    void promise3_aNeedThatIsThereMayComeAgain() {
        IntoTheCorner x = house("r1*1;n01@1-2;n01@1-2;");
        is(x.count(2), 2);
    }

    void promise3_hoursTheWrongWayRound() {
        is(read("r1*1;n01@2-1;"), -2005);
        is(read("r1*1;n01@10-9;"), -2005);
        is(read("r1*1;n01@99-0;"), -2005);
    }

    void promise3_equalHours() {
        is(read("r1*1;n01@0-0;n01@9-09;n01@99-99;"), 4);
    }

    // ---- kind 2: no room for more

    void promise3_theFifthRoomIsTheLast() {
        is(read(FIVE_ROOMS), 5);
        is(Due.house(house("r1*1;r1*1;r1*1;r1*1;"), "r2*2;"), 1);
    }

    void promise3_noRoomForASixthRoom() {
        is(read(FIVE_ROOMS + "r1*1;"), -2025);
        IntoTheCorner x = house(FIVE_ROOMS);
        is(Due.house(x, "r1*1;"), -2000);
        is(x.count(0), 5);
    }

    void promise3_theTwelfthDoorIsTheLast() {
        IntoTheCorner x = house(FIVE_ROOMS);
        is(Due.house(x, "d01;d02;d03;d04;d05;d12;d13;d14;d15;d23;d24;d25;"), 12);
        is(x.count(1), 12);
    }

    void promise3_noRoomForAThirteenthDoor() {
        IntoTheCorner x = house(FIVE_ROOMS, "d01;d02;d03;d04;d05;d12;d13;");
        is(Due.house(x, "d14;d15;d23;d24;d25;d34;"), -2020);
        is(x.count(1), 7);
        is(Due.house(x, "d14;d15;d23;d24;d25;"), 5);
        is(Due.house(x, "d34;"), -2000);
        is(x.door(3, 4), 0);
    }

    void promise3_theEighthNeedIsTheLast() {
        IntoTheCorner x = house("r1*1;n01@0-1;n01@0-1;n01@0-1;n01@0-1;", "n01@0-1;n01@0-1;n01@0-1;");
        is(Due.house(x, "n10@2-3;"), 1);
        is(x.need(7, 0), 1);
        is(x.need(7, 3), 3);
    }

    void promise3_noRoomForANinthNeed() {
        IntoTheCorner x = house("r1*1;n01@0-1;n01@0-1;n01@0-1;n01@0-1;", "n01@0-1;n01@0-1;");
        is(Due.house(x, "n01@0-1;n01@0-1;n01@0-1;"), -2016);
        is(x.count(2), 6);
        is(Due.house(x, "n01@0-1;n01@0-1;"), 2);
        is(Due.house(x, "n01@0-1;"), -2000);
        is(x.count(2), 8);
    }

    void promise3_fullOfOneKindIsNotFullOfAnother() {
        IntoTheCorner x = house(FIVE_ROOMS);
        is(Due.house(x, "d01;n01@0-1;"), 2);
        Due.house(x, "d02;d03;d04;d05;d12;d13;d14;d15;d23;d24;d25;");
        is(Due.house(x, "n01@0-1;"), 1);
    }

    // ---- what a FAULT leaves

    void promise3_theLetterOfTheFirstWrongStatement() {
        is(read("r1*1;d01;n01@2-1;"), -2009);
        is(read("r1*1;d11;r0*1;"), -2005);
        is(read("r1*1;r0*1;d01;"), -2005);
    }

    void promise3_withAFaultOfKind2NothingComes() {
        IntoTheCorner x = yard();
        is(Due.house(x, "r1*1;d01;n01@1-2;d01;"), -2017);
        is(x.count(0), 0);
        is(x.count(1), 0);
        is(x.count(2), 0);
        is(x.count(4), 0);
        is(x.free(0), 1);
        is(x.cuts(), 0);
    }

    void promise3_withAFaultOfKind1NothingComes() {
        IntoTheCorner x = yard();
        is(Due.house(x, "r1*1;d01;n01@1-2;x"), -1017);
        is(x.count(0), 0);
        is(x.count(1), 0);
        is(x.count(2), 0);
        is(x.free(0), 1);
    }

    void promise3_whatAFaultLeftAwayMayComeLater() {
        IntoTheCorner x = house("r1*1;");
        is(Due.house(x, "r2*2;d02;n02@1-2;d00;"), -2017);
        is(Due.house(x, "r3*1;d12;n12@3-4;"), 3);
        is(x.room(2, 0), 3);
        is(x.door(0, 2), 0);
        is(x.door(1, 2), 1);
        is(x.need(0, 0), 1);
        is(x.way(0, 2, 0), -9);
    }

    void promise3_theTapeHasNoneAfterwards() {
        IntoTheCorner x = house("r1*1;");
        is(x.count(5), 0);
        Due.house(x, "x");
        is(x.count(5), 0);
        Due.house(x, "r0*0;");
        is(x.count(5), 0);
        Due.house(x, "d01");
        is(x.count(5), 0);
    }

    void promise3_noFaultIsCounted() {
        IntoTheCorner x = yard();
        x.house();
        Due.house(x, "x");
        Due.house(x, "r1");
        Due.house(x, "r0*0;");
        Due.house(x, FIVE_ROOMS + "r1*1;");
        is(allRefusals(x), 0);
    }

    void promise3_itComesToWhatThereIs() {
        IntoTheCorner x = planned("r3*1;d01;n01@50-51;", 1, 7);
        x.planks(2);
        x.set(0, 9);
        Due.floor(x, "d.");
        is(Due.house(x, "r4*2;d02;d12;n12@60-61;"), 4);
        is(x.room(1, 0), 3);
        is(x.room(2, 0), 4);
        is(x.count(1), 3);
        is(x.need(0, 2), 50);
        is(x.need(1, 2), 60);
        is(x.count(3), 1);
        is(x.planks(0), 2);
        is(x.set(0, 1), 9);
        is(x.out(), 2);
    }
}
