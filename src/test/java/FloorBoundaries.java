/** Promises 4, 21 and 22: a FLOOR from a text, OUT, squares. */
final class FloorBoundaries extends Boundaries {
    private static int floor(String text) {
        return Due.floor(new IntoTheCorner(), text);
    }

    private static IntoTheCorner on(String text) {
        IntoTheCorner x = new IntoTheCorner();
        if (Due.floor(x, text) < 1) throw new IllegalStateException("not a floor: " + text);
        return x;
    }

    // ---- promise 4: rows and signs

    void promise4_anEmptyTextLacksAllAtItsEnd() {
        is(floor(""), -20);
    }

    void promise4_oneSquareIsTheLeast() {
        is(floor("d"), 1);
    }

    void promise4_fiveSignsAreTheMost() {
        is(floor("d...."), 5);
        is(floor("####d"), 1);
    }

    void promise4_theSixthSignCannotStand() {
        is(floor("d....."), -25);
        is(floor("#####d"), -25);
        is(floor("d####/######"), -31);
    }

    void promise4_fiveRowsAreTheMost() {
        is(floor("d/./././."), 5);
        is(floor("#/#/#/#/d"), 1);
    }

    void promise4_ofASixthRowTheSlashAheadOfIt() {
        is(floor("d/./././././"), -29);
        is(floor("d/./././."), 5);
        is(floor("d/././././"), -29);
        is(floor("d/./././.x"), -29);
        is(floor("#/#/#/#/#/d"), -29);
        is(floor("##/##/##/##/d#/##"), -34);
    }

    void promise4_theLongestText() {
        is(floor("d..../...../#####/#####/#####"), 10);
        is(floor("#####/#####/#####/...../....d"), 10);
        is(floor("#####/#####/#####/...../....d/"), -49);
    }

    void promise4_aRowOfNoSignAtFirst() {
        is(floor("/d"), -20);
        is(floor("/"), -20);
    }

    void promise4_aRowOfNoSignBetween() {
        is(floor("d//."), -22);
        is(floor("d./..//.."), -26);
    }

    void promise4_aRowOfNoSignAtLastIsLackingAtTheEnd() {
        is(floor("d/"), -22);
        is(floor("d./../"), -26);
    }

    void promise4_aRowLongerThanTheFirst() {
        is(floor("d/.."), -23);
        is(floor("d./..#"), -25);
        is(floor("d./.././..."), -27);
        is(floor("#/##/d"), -23);
    }

    void promise4_aRowShorterThanTheFirstAtItsSlash() {
        is(floor("d./#/.."), -24);
        is(floor("d../../..."), -26);
    }

    void promise4_aRowShorterThanTheFirstAtTheEnd() {
        is(floor("d./."), -24);
        is(floor("d../.."), -26);
        is(floor("d..../....."), 10);
        is(floor("d..../####"), -30);
    }

    void promise4_otherSignsCannotStand() {
        for (int sign : new int[] {'D', 'x', ' ', '0', ';', '-', 0, 10, 255, '.' + 128, '#' + 128, 'd' + 128, '/' + 128}) {
            is("first " + sign, floor((char) sign + "d"), -20);
            is("second " + sign, floor("d" + (char) sign), -21);
            is("in the second row " + sign, floor("d/" + (char) sign), -22);
        }
    }

    void promise4_theFirstOfTwoThatCannotStand() {
        is(floor("dxd"), -21);
        is(floor("ddx"), -21);
        is(floor("d./.x/x"), -24);
    }

    // ---- promise 4: the door and the squares

    void promise4_theDoorLacksAtTheEnd() {
        is(floor("."), -21);
        is(floor("#"), -21);
        is(floor("../.."), -25);
        is(floor("#/#/#/#/#"), -29);
        is(floor("...../....."), -31);
    }

    void promise4_aSecondDoorCannotStand() {
        is(floor("dd"), -21);
        is(floor("d#/#d"), -24);
        is(floor("#d.d#"), -23);
    }

    void promise4_tenSquaresAreTheMostWithTheDoor() {
        is(floor("d..../....."), 10);
        is(floor("...../....d"), 10);
        is(floor("...../...d#/#####"), 9);
    }

    void promise4_theEleventhSquareCannotStand() {
        is(floor("d..../...../."), -32);
        is(floor("d..../....#/##.#./....."), -36);
        is(floor("d../.../.../.#."), -34);
    }

    void promise4_theEleventhSquareMayNotBeTheDoorEither() {
        is(floor("...../...../d"), -32);
        is(floor("...../...../##d"), -34);
    }

    void promise4_whatIsNoFloorIsNotCountedAmongTen() {
        is(floor("d..../...../#####"), 10);
        is(floor("#####/#####/#####/#####/##d##"), 1);
    }

    // ---- promise 4: what it leaves

    void promise4_theTapeHasNoneAfterwards() {
        IntoTheCorner x = on("d.");
        is(x.count(5), 0);
        Due.floor(x, "d.x");
        is(x.count(5), 0);
        Due.floor(x, "..");
        is(x.count(5), 0);
    }

    void promise4_noFaultIsCounted() {
        IntoTheCorner x = yard();
        x.floor();
        Due.floor(x, "dd");
        Due.floor(x, "d/");
        Due.floor(x, "d..../...../.");
        is(allRefusals(x), 0);
    }

    void promise4_byAFaultTheFloorStays() {
        IntoTheCorner x = on("#d./###");
        is(Due.floor(x, "../.d/.x"), -27);
        is(x.square(0, 0), 0);
        is(x.square(0, 1), 2);
        is(x.square(0, 2), 1);
        is(x.square(1, 1), 0);
        is(x.square(2, 0), -1);
        is(x.square(0, 3), -1);
        is(x.out(), 2);
    }

    void promise4_byAFaultNoFloorStaysNone() {
        IntoTheCorner x = yard();
        Due.floor(x, "d..x");
        is(x.out(), -3);
        is(x.square(0, 0), -3);
    }

    void promise4_aSmallerFloorTakesThePlaceOfALargerOne() {
        IntoTheCorner x = on("d..../.....");
        is(Due.floor(x, "#/d"), 1);
        is(x.square(0, 0), 0);
        is(x.square(1, 0), 2);
        is(x.square(0, 1), -1);
        is(x.square(2, 0), -1);
        is(x.out(), 0);
    }

    void promise4_theHouseStays() {
        IntoTheCorner x = planned("r1*1;d01;", 1, 5);
        Due.floor(x, "d.");
        is(x.count(0), 1);
        is(x.count(1), 1);
        is(x.count(3), 1);
    }

    // ---- promise 21

    void promise21_noFloor() {
        IntoTheCorner x = yard();
        is(x.out(), -3);
        is(x.count(13), 1);
    }

    void promise21_theDoorAloneIsNoMove() {
        is(on("d").out(), 0);
        is(on("###/#d#/###").out(), 0);
    }

    void promise21_oneMoreSquareIsThereAndBack() {
        is(on("d.").out(), 2);
        is(on("d/.").out(), 2);
        is(on(".d").out(), 2);
        is(on("./d").out(), 2);
    }

    void promise21_aSquareThatHeNeverComesTo() {
        IntoTheCorner x = on("d#.");
        is(x.out(), -9);
        is(x.count(13), 0);
        is(on("d#/#.").out(), -9);
        is(on("d..../#####/#####/#####/....#").out(), -9);
    }

    void promise21_theEndOfARowIsNotBesideTheNextOne() {
        is(on("..d/###/...").out(), -9);
        is(on("#d/.#").out(), -9);
        is(on("####d/.####").out(), -9);
        is(on("d####/####.").out(), -9);
    }

    void promise21_squaresInARing() {
        is(on("d./..").out(), 4);
        is(on(".../.#d/...").out(), 8);
        is(on("d..../.....").out(), 10);
    }

    void promise21_anOddNumberOfSquaresCostsOneMoreMove() {
        is(on("d../.../...").out(), 10);
        is(on(".../.d./...").out(), 10);
        is(on("d../..#").out(), 6);
    }

    void promise21_aRowThereAndBack() {
        is(on("d....").out(), 8);
        is(on("..d..").out(), 8);
        is(on("./././d/.").out(), 8);
    }

    void promise21_theMostMovesForTenSquares() {
        // Each of the nine joints of a tree of ten squares, there and back.
        is(on("d#.#./...../#.#.#").out(), 18);
        is(on("d..../####./#....").out(), 18);
        is(on("....d/.####/....#").out(), 18);
    }

    void promise21_aSecondFloorIsLookedAtAnew() {
        IntoTheCorner x = on("d..../.....");
        is(x.out(), 10);
        Due.floor(x, "d#.");
        is(x.out(), -9);
        Due.floor(x, "d..");
        is(x.out(), 4);
        is(x.out(), 4);
    }

    // ---- promise 22

    void promise22_noFloorGoesAheadOfNobody() {
        IntoTheCorner x = yard();
        is(x.square(0, 0), -3);
        is(x.square(-1, 0), -3);
        is(x.square(0, 9), -3);
        is(x.count(13), 3);
        is(x.count(11), 0);
    }

    void promise22_theFirstAndTheLast() {
        IntoTheCorner x = on(".#/#d/#.");
        is(x.square(0, 0), 1);
        is(x.square(2, 1), 1);
        is(x.square(2, 0), 0);
        is(x.square(1, 1), 2);
        IntoTheCorner large = on("d####/#####/#####/#####/####.");
        is(large.square(0, 0), 2);
        is(large.square(4, 4), 1);
    }

    void promise22_aRowBelowAndAbove() {
        IntoTheCorner x = on("d./..");
        is(x.square(-1, 0), -1);
        is(x.square(2, 0), -1);
        is(x.square(LOWEST, 0), -1);
        is(x.square(HIGHEST, 0), -1);
        IntoTheCorner large = on("d####/#####/#####/#####/####.");
        is(large.square(5, 0), -1);
        is(large.square(5, 4), -1);
    }

    void promise22_aColumnBelowAndAbove() {
        IntoTheCorner x = on("d./..");
        is(x.square(0, -1), -1);
        is(x.square(0, 2), -1);
        is(x.square(1, -1), -1);
        is(x.square(0, LOWEST), -1);
        is(x.square(0, HIGHEST), -1);
        IntoTheCorner large = on("d####/#####/#####/#####/####.");
        is(large.square(0, 5), -1);
        is(large.square(3, 5), -1);
    }

    void promise22_rowsAndColumnsAreNotMistaken() {
        IntoTheCorner x = on("d..");
        is(x.square(0, 2), 1);
        is(x.square(1, 0), -1);
        is(x.square(2, 0), -1);
        IntoTheCorner y = on("d/./.");
        is(y.square(2, 0), 1);
        is(y.square(0, 1), -1);
    }
}
