import java.util.ArrayList;
import java.util.List;
import java.util.function.Supplier;
import java.util.function.ToIntFunction;

/**
 * 'Nothing changes but how many there were', for each refused call: of two objects that had the same calls, one has
 * the refused one besides, and all that both of them answer afterwards is the same but for that count. So too for
 * FAULTS, for -9, and for calls that only look, of which nothing is counted.
 */
final class RefusalBoundaries extends Boundaries {
    private static final int[] FAR = {LOWEST, -1, HIGHEST};

    /** Three ROOMS, a PLAN, PLANKS, a FLOOR, a byte on THE TAPE, and an image that is another one than that. */
    private static IntoTheCorner rich() {
        IntoTheCorner x = planned("r2*1;r1*2;d01;n01@70-80;", 2, 5);
        Due.floor(x, ".d");
        x.image();
        Due.house(x, "r3*1;d12;d23;n13@60-61;");
        x.step(3, 20);
        x.step(1, 40);
        x.set(0, 5);
        x.set(1, 3);
        x.set(2, 50);
        x.set(3, 2);
        x.planks(4);
        Due.floor(x, "d.#/...");
        x.feed(1, 'd');
        return x;
    }

    /** As many ROOMS, DOORS, NEEDS, STEPS and bytes as can be, and more than six coats. */
    private static IntoTheCorner full() {
        IntoTheCorner x = house("r1*2;r1*2;r1*2;r1*2;r9*2;", "d01;d02;d03;d04;d05;d12;d13;d14;d15;d23;d24;d25;",
            "n01@0-0;n01@0-0;n01@0-0;n01@0-0;", "n01@0-0;n01@0-0;n01@0-0;n25@1-9;");
        for (int i = 0; i < 8; i++) x.step(5 - i % 5, 90 + i);
        Due.floor(x, "d..../.....");
        x.image();
        Due.feed(x, "d".repeat(48));
        return x;
    }

    /** All that can be asked, and then ON from the image, and all again. */
    private static List<Integer> answers(IntoTheCorner x) {
        List<Integer> all = new ArrayList<>();
        for (int what = 0; what <= 5; what++) all.add(x.count(what));
        ask(x, all);
        all.add(x.floor());
        all.add(x.out());
        all.add(x.soonest());
        all.add(x.stepOf(0, 0));
        all.add(x.on());
        for (int what = 0; what <= 5; what++) all.add(x.count(what));
        ask(x, all);
        return all;
    }

    private static void ask(IntoTheCorner x, List<Integer> all) {
        for (int room = 1; room <= 5; room++) {
            for (int what = 0; what <= 1; what++) all.add(x.room(room, what));
            for (int other = 0; other < room; other++) all.add(x.door(room, other));
        }
        for (int i = 0; i < x.count(2); i++) {
            for (int what = 0; what <= 3; what++) all.add(x.need(i, what));
        }
        for (int i = 0; i < x.count(3); i++) {
            all.add(x.stepOf(i, 0));
            all.add(x.stepOf(i, 1));
            all.add(x.where(i + 1));
        }
        all.add(x.judged(0));
        all.add(x.judged(1));
        all.add(x.done());
        all.add(x.cuts());
        for (int hour = 0; hour <= 96; hour += 4) all.add(x.free(hour));
        for (int what = 0; what <= 3; what++) {
            int was = x.set(what, 1);
            x.set(what, was);
            all.add(was);
        }
        int planks = x.planks(0);
        x.planks(planks);
        all.add(planks);
        for (int row = 0; row <= 2; row++) {
            for (int column = 0; column <= 5; column++) all.add(x.square(row, column));
        }
        all.add(x.out());
    }

    /** Whether nothing is another than without the call; of refusals just this one is counted, 0 none. */
    private void changesNothing(String call, Supplier<IntoTheCorner> make, int refusal, ToIntFunction<IntoTheCorner> called) {
        IntoTheCorner with = make.get();
        IntoTheCorner without = make.get();
        int answer = called.applyAsInt(with);
        if (refusal != 0) is(call + " answers", answer, refusal);
        for (int what = 11; what <= 16; what++) {
            int more = refusal != 0 && what == 10 - refusal ? 1 : 0;
            is(call + " counted in " + what, with.count(what), without.count(what) + more);
        }
        List<Integer> got = answers(with);
        List<Integer> want = answers(without);
        is(call + ", how many answers", got.size(), want.size());
        for (int i = 0; i < Math.min(got.size(), want.size()); i++) {
            is(call + ", answer " + i + " behind it", got.get(i), want.get(i));
        }
    }

    private void refused(String call, Supplier<IntoTheCorner> make, int refusal, ToIntFunction<IntoTheCorner> called) {
        changesNothing(call, make, refusal, called);
    }

    private void refusedEverywhere(String call, int refusal, ToIntFunction<IntoTheCorner> called) {
        refused(call + " in the yard", IntoTheCorner::new, refusal, called);
        refused(call + " in a house", RefusalBoundaries::rich, refusal, called);
        refused(call + " in a full house", RefusalBoundaries::full, refusal, called);
    }

    void promise2_refusedFeedsChangeNothing() {
        refusedEverywhere("feed 0", -4, x -> x.feed(0, 'd'));
        refusedEverywhere("feed lowest", -4, x -> x.feed(LOWEST, 'd'));
        refusedEverywhere("feed 9", -6, x -> x.feed(9, 'd'));
        refusedEverywhere("feed highest", -6, x -> x.feed(HIGHEST, 'd'));
        refused("feed 1", RefusalBoundaries::full, -6, x -> x.feed(1, '.'));
        refused("feed 8", RefusalBoundaries::full, -6, x -> x.feed(8, '.'));
    }

    void promise5_refusedRoomsChangeNothing() {
        refusedEverywhere("room 0", -1, x -> x.room(0, 0));
        refusedEverywhere("room 6", -1, x -> x.room(6, 2));
        for (int far : FAR) refusedEverywhere("room " + far, -1, x -> x.room(far, 0));
        for (int far : FAR) refused("what " + far, RefusalBoundaries::rich, -2, x -> x.room(1, far));
    }

    void promise6_refusedDoorsChangeNothing() {
        refusedEverywhere("door 0 6", -1, x -> x.door(0, 6));
        refusedEverywhere("door 6 0", -1, x -> x.door(6, 0));
        for (int far : FAR) refusedEverywhere("door " + far, -1, x -> x.door(far, far));
    }

    void promise7_refusedNeedsChangeNothing() {
        refusedEverywhere("need 8", -1, x -> x.need(8, 0));
        for (int far : FAR) refusedEverywhere("need " + far, -1, x -> x.need(far, far));
        for (int far : FAR) refused("what " + far, RefusalBoundaries::rich, -2, x -> x.need(0, far));
    }

    void promise8_refusedSetsChangeNothing() {
        int[] least = {1, 0, 1, 1};
        int[] most = {24, 24, 99, 3};
        for (int i = 0; i <= 3; i++) {
            int what = i;
            refusedEverywhere("set below " + what, -4, x -> x.set(what, least[what] - 1));
            refusedEverywhere("set above " + what, -6, x -> x.set(what, most[what] + 1));
        }
        refusedEverywhere("set 4", -2, x -> x.set(4, 1));
        for (int far : FAR) refusedEverywhere("set " + far, -2, x -> x.set(far, 1));
    }

    void promise9_refusedPlanksChangeNothing() {
        refusedEverywhere("planks 1", -1, x -> x.planks(1));
        refusedEverywhere("planks 64", -1, x -> x.planks(64));
        for (int far : FAR) refusedEverywhere("planks " + far, -1, x -> x.planks(far));
        refused("planks 3", RefusalBoundaries::rich, -1, x -> x.planks(3));
        refused("planks 16", RefusalBoundaries::rich, -1, x -> x.planks(16));
        refused("planks 18", RefusalBoundaries::rich, -1, x -> x.planks(18));
    }

    void promise10_refusedStepsChangeNothing() {
        refusedEverywhere("step 0", -1, x -> x.step(0, 5));
        refusedEverywhere("step 6", -1, x -> x.step(6, 5));
        for (int far : FAR) refusedEverywhere("step " + far, -1, x -> x.step(far, 5));
        refused("step at -1", RefusalBoundaries::rich, -4, x -> x.step(1, -1));
        refused("step at 100", RefusalBoundaries::rich, -6, x -> x.step(1, 100));
        refused("step at lowest", RefusalBoundaries::rich, -4, x -> x.step(1, LOWEST));
        refused("step at highest", RefusalBoundaries::rich, -6, x -> x.step(1, HIGHEST));
        refused("a ninth", RefusalBoundaries::full, -6, x -> x.step(1, 5));
        refused("a ninth at -1", RefusalBoundaries::full, -4, x -> x.step(1, -1));
    }

    void promise11_refusedLooksAtStepsChangeNothing() {
        refusedEverywhere("stepOf 8", -1, x -> x.stepOf(8, 0));
        for (int far : FAR) refusedEverywhere("stepOf " + far, -1, x -> x.stepOf(far, far));
        for (int far : FAR) refused("what " + far, RefusalBoundaries::rich, -2, x -> x.stepOf(0, far));
    }

    void promise13_refusedJudgementsChangeNothing() {
        refusedEverywhere("judged 2", -2, x -> x.judged(2));
        for (int far : FAR) refusedEverywhere("judged " + far, -2, x -> x.judged(far));
    }

    void promise15_refusedWheresChangeNothing() {
        refusedEverywhere("where 9", -1, x -> x.where(9));
        for (int far : FAR) refusedEverywhere("where " + far, -1, x -> x.where(far));
    }

    void promise16_refusedSoonestChangesNothing() {
        refused("no rooms", IntoTheCorner::new, -3, IntoTheCorner::soonest);
        refused("more than six coats", RefusalBoundaries::full, -6, IntoTheCorner::soonest);
    }

    void promise17_refusedFewestChangesNothing() {
        refused("no rooms", IntoTheCorner::new, -3, x -> x.fewest(5));
        refused("more than six coats", RefusalBoundaries::full, -6, x -> x.fewest(5));
        refused("below", RefusalBoundaries::rich, -4, x -> x.fewest(-1));
        refused("above", RefusalBoundaries::rich, -6, x -> x.fewest(100));
    }

    void promise19_refusedWaysChangeNothing() {
        refusedEverywhere("way 6", -1, x -> x.way(6, 0, 0));
        refusedEverywhere("way to 6", -1, x -> x.way(0, 6, 0));
        for (int far : FAR) refusedEverywhere("way " + far, -1, x -> x.way(0, far, far));
        refusedEverywhere("way at -1", -4, x -> x.way(0, 0, -1));
        refusedEverywhere("way at 100", -6, x -> x.way(0, 0, 100));
    }

    void promise20_refusedFreesChangeNothing() {
        refusedEverywhere("free at -1", -4, x -> x.free(-1));
        refusedEverywhere("free at 100", -6, x -> x.free(100));
    }

    void promise21_refusedOutChangesNothing() {
        refused("no floor", IntoTheCorner::new, -3, IntoTheCorner::out);
    }

    void promise22_refusedSquaresChangeNothing() {
        refused("no floor", IntoTheCorner::new, -3, x -> x.square(0, 0));
        for (int far : FAR) {
            refused("row " + far, RefusalBoundaries::rich, -1, x -> x.square(far, 0));
            refused("column " + far, RefusalBoundaries::full, -1, x -> x.square(0, far));
        }
    }

    void promise24_refusedOnChangesNothing() {
        refused("no image", IntoTheCorner::new, -3, IntoTheCorner::on);
    }

    void promise25_otherCountsChangeNothing() {
        for (int what : new int[] {-1, 6, 10, 17, LOWEST, HIGHEST}) {
            changesNothing("count " + what, RefusalBoundaries::rich, 0, x -> x.count(what));
        }
    }

    // ---- what is no refusal: nothing is counted

    private static IntoTheCorner emptied(Supplier<IntoTheCorner> make) {
        IntoTheCorner x = make.get();
        x.house();
        return x;
    }

    private void faulty(String text, ToIntFunction<IntoTheCorner> read) {
        changesNothing(text + " in a house", () -> emptied(RefusalBoundaries::rich), 0, x -> {
            Due.feed(x, text);
            return read.applyAsInt(x);
        });
        changesNothing(text + " in a full house", () -> emptied(RefusalBoundaries::full), 0, x -> {
            Due.feed(x, text);
            return read.applyAsInt(x);
        });
    }

    void promise3_faultsChangeNothing() {
        String[] texts = {"", "x", "r1*1;d01;n01@1-2;r1*1", "r1*0;", "n02@1-2;d01;", "r1*1;r1*1;r1*1;", "n01@3-2;",
            "d13;n23@1-2;r0*1;"};
        for (String text : texts) faulty(text, IntoTheCorner::house);
    }

    void promise4_faultsChangeNothing() {
        String[] texts = {"", "x", "dd", "d./.", "...../...../d", "#/#/#/#/#/", "..", "d/"};
        for (String text : texts) faulty(text, IntoTheCorner::floor);
    }

    void promise16_noneChangesNothing() {
        changesNothing("no door", () -> {
            IntoTheCorner x = planned("r1*1;r1*1;d01;", 2, 7, 1, 8);
            x.planks(2);
            x.image();
            return x;
        }, 0, IntoTheCorner::soonest);
    }

    void promise17_fewestChangesNothing() {
        for (int hour : new int[] {0, 5, 30, 99}) {
            changesNothing("fewest " + hour, RefusalBoundaries::rich, 0, x -> x.fewest(hour));
        }
    }

    void promise21_outChangesNothing() {
        changesNothing("out", RefusalBoundaries::rich, 0, IntoTheCorner::out);
        changesNothing("out, never", () -> {
            IntoTheCorner x = rich();
            x.floor();
            Due.floor(x, "d#.");
            return x;
        }, 0, IntoTheCorner::out);
    }

    void promise13_looksChangeNothing() {
        changesNothing("judged 0", RefusalBoundaries::rich, 0, x -> x.judged(0));
        changesNothing("judged 1", RefusalBoundaries::full, 0, x -> x.judged(1));
        changesNothing("done", RefusalBoundaries::rich, 0, IntoTheCorner::done);
        changesNothing("where", RefusalBoundaries::rich, 0, x -> x.where(3));
        changesNothing("cuts", RefusalBoundaries::rich, 0, IntoTheCorner::cuts);
        changesNothing("way", RefusalBoundaries::rich, 0, x -> x.way(0, 3, 9));
        changesNothing("free", RefusalBoundaries::rich, 0, x -> x.free(9));
        changesNothing("square", RefusalBoundaries::rich, 0, x -> x.square(0, 2));
    }
}
