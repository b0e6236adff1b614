/** Promises 1 and 2: a new object, and THE TAPE. */
final class TapeBoundaries extends Boundaries {
    void promise1_noRoomsDoorsNeedsStepsCoatsBytes() {
        for (int what = 0; what <= 5; what++) is("count " + what, yard().count(what), 0);
    }

    void promise1_noRefusals() {
        is(allRefusals(yard()), 0);
    }

    void promise1_theYardAloneIsThere() {
        is(yard().free(0), 1);
        is(yard().free(99), 1);
        is(yard().door(0, 0), 0);
        is(yard().door(0, 1), -1);
        is(yard().room(1, 0), -1);
    }

    void promise1_wetIsSixAtFirst() {
        is(yard().set(0, 1), 6);
    }

    void promise1_tackyIsTwoAtFirst() {
        is(yard().set(1, 1), 2);
    }

    void promise1_lateIsFortyEightAtFirst() {
        is(yard().set(2, 1), 48);
    }

    void promise1_handsIsOneAtFirst() {
        is(yard().set(3, 2), 1);
    }

    void promise1_planksAreNoneAtFirst() {
        is(yard().planks(0), 0);
        is(house("r1*1;").planks(2), 0);
    }

    void promise1_noPlanAtFirst() {
        is(yard().done(), -9);
        is(yard().clear(), 0);
        is(yard().where(0), 0);
        is(yard().where(1), -1);
        is(yard().judged(0), -9);
        is(yard().judged(1), -9);
    }

    void promise1_noFloorAtFirst() {
        is(yard().out(), -3);
        is(yard().square(0, 0), -3);
    }

    void promise1_noImageAtFirst() {
        is(yard().on(), -3);
    }

    void promise1_anotherObjectIsNotTouched() {
        IntoTheCorner other = planned("r1*1;d01;n01@50-51;", 1, 0);
        other.set(0, 9);
        other.planks(2);
        other.image();
        Due.floor(other, "d.");
        other.feed(1, 'd');
        other.room(9, 9);
        IntoTheCorner x = yard();
        for (int what = 0; what <= 5; what++) is("count " + what, x.count(what), 0);
        is(allRefusals(x), 0);
        is(x.set(0, 1), 6);
        is(x.planks(0), 0);
        is(x.out(), -3);
        is(x.on(), -3);
        is(other.count(3), 1);
        is(other.set(0, 1), 9);
    }

    void promise2_nZeroIsBelow() {
        is(yard().feed(0, 'd'), -4);
    }

    void promise2_nFarBelow() {
        is(yard().feed(-1, 'd'), -4);
        is(yard().feed(LOWEST, 'd'), -4);
    }

    void promise2_nOneIsTheLeast() {
        is(yard().feed(1, 'd'), 1);
    }

    void promise2_nEightIsTheMost() {
        IntoTheCorner x = yard();
        is(x.feed(8, Due.packed("d.../...")), 8);
        is(x.feed(1, '.'), 9);
        is(x.floor(), 8);
    }

    void promise2_nNineIsAbove() {
        is(yard().feed(9, 'd'), -6);
    }

    void promise2_nFarAbove() {
        is(yard().feed(48, 'd'), -6);
        is(yard().feed(HIGHEST, 'd'), -6);
    }

    void promise2_theLowestComesFirst() {
        IntoTheCorner x = yard();
        x.feed(3, '#' | 'd' << 8 | '.' << 16);
        is(x.floor(), 2);
        is(x.square(0, 0), 0);
        is(x.square(0, 1), 2);
        is(x.square(0, 2), 1);
    }

    void promise2_bytesAboveNDoNotCome() {
        for (int n = 1; n <= 7; n++) {
            IntoTheCorner x = yard();
            long bytes = Due.packed("#d#####".substring(0, n)) | -1L << 8 * n;
            is("n " + n, x.feed(n, bytes), n);
            is("count, n " + n, x.count(5), n);
            // With more than five signs the sixth cannot stand; with one there is no door.
            is("floor, n " + n, x.floor(), n > 5 ? -25 : n == 1 ? -21 : 1);
        }
    }

    void promise2_theHighestBitOfAByteIsPartOfIt() {
        for (int at = 0; at < 8; at++) {
            IntoTheCorner x = yard();
            x.feed(8, Due.packed("d/./././") ^ 128L << 8 * at);
            x.feed(1, '.');
            is("at " + at, x.floor(), -20 - at);
        }
    }

    void promise2_theEighthByteIsWhole() {
        IntoTheCorner x = yard();
        x.feed(8, Due.packed("#/#/#/#/"));
        x.feed(1, 'd');
        is(x.floor(), 1);
    }

    void promise2_oneByOneUpToFull() {
        IntoTheCorner x = yard();
        for (int i = 1; i <= 48; i++) is(x.feed(1, 'x'), i);
        is(x.feed(1, 'x'), -6);
        is(x.count(5), 48);
    }

    void promise2_eightByEightUpToFull() {
        IntoTheCorner x = yard();
        for (int i = 1; i <= 6; i++) is(x.feed(8, -1L), 8 * i);
        for (int n = 1; n <= 8; n++) is(x.feed(n, -1L), -6);
        is(x.count(5), 48);
    }

    void promise2_justAsManyAsThereIsRoomFor() {
        for (int n = 1; n <= 8; n++) {
            IntoTheCorner x = yard();
            Due.feed(x, "x".repeat(48 - n));
            is("n " + n, x.feed(n, 0), 48);
        }
    }

    void promise2_oneMoreThanThereIsRoomFor() {
        for (int n = 1; n <= 8; n++) {
            IntoTheCorner x = yard();
            Due.feed(x, "x".repeat(49 - n));
            is("n " + n, x.feed(n, 0), -6);
            is("none of them came, n " + n, x.count(5), 49 - n);
        }
    }

    void promise2_belowGoesAheadOfFull() {
        IntoTheCorner x = yard();
        Due.feed(x, "x".repeat(48));
        is(x.feed(0, 0), -4);
        is(x.feed(LOWEST, 0), -4);
        is(x.feed(9, 0), -6);
        is(x.count(14), 2);
        is(x.count(16), 1);
    }

    void promise2_roomAgainOnceTheTapeIsRead() {
        IntoTheCorner x = yard();
        Due.feed(x, "x".repeat(48));
        x.house();
        is(x.feed(8, 0), 8);
        Due.feed(x, "x".repeat(40));
        x.floor();
        is(x.feed(8, 0), 8);
    }

    void promise2_nothingIsLeftOfATapeThatWasRead() {
        IntoTheCorner x = yard();
        Due.floor(x, "d....");
        is(Due.floor(x, "d."), 2);
        Due.house(x, "r1*1;r1*1;");
        is(Due.house(x, "d01;"), 1);
    }

    void promise2_allFortyEightAreKept() {
        is(read("r1*1;r1*1;r1*1;r1*1;d01;d02;d03;d04;d12;d13;d14;"), 11);
        is(read("r1*1;r1*1;r1*1;r1*1;d01;d02;d03;d04;d12;d13;d14x"), -1047);
    }
}
