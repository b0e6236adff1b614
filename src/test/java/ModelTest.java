import java.util.ArrayList;
import java.util.Collections;
import java.util.List;
import java.util.Random;

/** Random runs of calls on the class and on the model beside each other. */
public final class ModelTest {
    private final Due due = new Due();
    private final Random random;
    private final int[] judgedThings = new int[9];
    private IntoTheCorner x;
    private Model m;
    private int run;

    private ModelTest(long seed) {
        random = new Random(seed);
    }

    public static void main(String[] args) {
        ModelTest test = new ModelTest(20261117L);
        int runs = args.length > 0 ? Integer.parseInt(args[0]) : 400;
        for (int i = 0; i < runs; i++) {
            test.run = i;
            test.oneRun();
            test.cornerRun();
        }
        for (int thing = 1; thing <= 8; thing++) {
            if (test.judgedThings[thing] == 0) test.due.fails("thing " + thing + " was never the one judged");
        }
        test.due.end();
    }

    private void oneRun() {
        x = new IntoTheCorner();
        m = new Model();
        int calls = 60 + random.nextInt(150);
        // 0: a house of whatever comes; 1: mostly the empty yard; else a house that is fit to be painted.
        int kind = random.nextInt(6);
        if (kind == 0) {
            text(someText());
        } else if (kind > 1) {
            house(goodHouse());
        }
        for (int i = 0; i < calls; i++) {
            oneCall(kind);
        }
        for (int what = -1; what <= 18; what++) {
            same("count " + what, x.count(what), m.count(what));
        }
    }

    /** Rooms in a line, each STEP in the room that he went out into: so he comes into corners. */
    private void cornerRun() {
        x = new IntoTheCorner();
        m = new Model();
        int rooms = some(2, 5);
        List<Integer> line = new ArrayList<>();
        StringBuilder text = new StringBuilder();
        for (int r = 1; r <= rooms; r++) {
            line.add(r);
            text.append('r').append(some(1, 9)).append('*').append(some(1, 2)).append(';');
        }
        Collections.shuffle(line, random);
        line.add(0, 0);
        for (int r = 1; r <= rooms; r++) text.append('d').append(line.get(r - 1)).append(line.get(r)).append(';');
        house(text.toString());
        int wet = some(1, 24);
        same("set 0 " + wet, x.set(0, wet), m.set(0, wet));
        int room = some(1, rooms);
        int hour = some(0, 90);
        for (int i = 1; i <= 4; i++) {
            same("step " + room + " " + hour, x.step(room, hour), m.step(room, hour));
            same("where " + i, x.where(i), m.where(i));
            judgedCall();
            room = m.where(i) > 0 ? m.where(i) : some(1, rooms);
            hour = Math.min(99, m.done() + some(0, 1));
        }
    }

    private void same(String call, int got, int want) {
        due.is("run " + run + ": " + call, got, want);
    }

    private int some(int least, int most) {
        return least + random.nextInt(most - least + 1);
    }

    /** Mostly from least to most, now and then outside or far away. */
    private int near(int least, int most) {
        int dice = random.nextInt(60);
        if (dice == 0) return random.nextInt();
        if (dice == 1) return least - 1;
        if (dice == 2) return most + 1;
        if (dice == 3) return random.nextBoolean() ? Integer.MIN_VALUE : Integer.MAX_VALUE;
        return some(least, most);
    }

    private void text(String text) {
        for (int at = 0; at < text.length(); ) {
            int n = Math.min(text.length() - at, some(1, 8));
            long bytes = Due.packed(text.substring(at, at + n));
            // What stands above the n bytes is not read.
            if (n < 8) bytes |= random.nextLong() << (8 * n);
            same("feed " + n, x.feed(n, bytes), m.feed(n, bytes));
            at += n;
        }
    }

    /** A tape takes 48 bytes, so a long text comes statement by statement in pieces. */
    private void house(String text) {
        for (int at = 0; at < text.length(); ) {
            int end = text.length() - at <= 48 ? text.length() : text.lastIndexOf(';', at + 47) + 1;
            text(text.substring(at, end));
            same("house " + text, x.house(), m.house());
            at = end;
        }
    }

    private String goodHouse() {
        StringBuilder text = new StringBuilder();
        int rooms = some(1, 5);
        int coats = 0;
        for (int r = 1; r <= rooms; r++) {
            int its = random.nextInt(3) == 0 ? 2 : 1;
            if (coats + its + rooms - r > 6) its = 1;
            coats += its;
            text.append('r').append(some(1, random.nextBoolean() ? 4 : 9)).append('*').append(its).append(';');
        }
        // Any room may be the one beside the yard, so that he also goes out into rooms farther in.
        List<Integer> places = new ArrayList<>();
        for (int r = 1; r <= rooms; r++) places.add(r);
        Collections.shuffle(places, random);
        places.add(0, 0);
        for (int r = 1; r <= rooms; r++) {
            if (random.nextInt(12) == 0) continue;
            text.append('d').append(places.get(r)).append(places.get(some(0, r - 1))).append(';');
        }
        house(text.toString());
        for (int i = some(0, 3); i > 0; i--) house(someDoor(rooms));
        text.setLength(0);
        for (int i = some(0, 3); i > 0; i--) text.append(someNeed(rooms));
        return text.toString();
    }

    private String someDoor(int rooms) {
        return "d" + some(0, rooms) + some(0, rooms) + ";";
    }

    private String someNeed(int rooms) {
        int first = some(0, 60);
        int last = first + some(0, random.nextInt(6) == 0 ? 39 : 12);
        return "n" + some(0, Math.min(rooms, 9)) + some(0, rooms) + "@" + first + "-" + last + ";";
    }

    private String someText() {
        StringBuilder text = new StringBuilder();
        for (int i = some(1, 5); i > 0; i--) {
            switch (random.nextInt(4)) {
                case 0 -> text.append('r').append(some(0, 9)).append('*').append(some(0, 3)).append(';');
                case 1 -> text.append(someDoor(some(0, 6)));
                case 2 -> text.append("n" + some(0, 5) + some(0, 6) + "@" + some(0, 99) + "-" + some(0, 99) + ";");
                default -> text.append("r").append(some(1, 9)).append('*').append(some(1, 2)).append(';');
            }
        }
        if (random.nextInt(3) == 0) {
            int at = random.nextInt(text.length());
            switch (random.nextInt(3)) {
                case 0 -> text.setLength(at);
                case 1 -> text.setCharAt(at, "rdn;*@-0519x/\u00ff\u0000".charAt(random.nextInt(14)));
                default -> text.insert(at, "rdn;*@-0519x".charAt(random.nextInt(12)));
            }
        }
        return text.toString();
    }

    private String someFloor() {
        StringBuilder text = new StringBuilder();
        int rows = some(1, 5);
        int columns = some(1, 5);
        int bare = some(0, 9);
        int door = random.nextInt(rows * columns);
        for (int i = 0; i < rows * columns; i++) {
            if (i > 0 && i % columns == 0) text.append('/');
            text.append(i == door ? 'd' : random.nextInt(10) < bare ? '#' : '.');
        }
        if (random.nextInt(5) == 0) {
            int at = random.nextInt(text.length());
            switch (random.nextInt(3)) {
                case 0 -> text.setLength(at);
                case 1 -> text.setCharAt(at, "d.#/x".charAt(random.nextInt(5)));
                default -> text.insert(at, "d.#/x".charAt(random.nextInt(5)));
            }
        }
        return text.toString();
    }

    private void oneCall(int kind) {
        int dice = random.nextInt(100);
        if (dice < 14) {
            textCall(kind);
        } else if (dice < 30) {
            lookCall();
        } else if (dice < 52) {
            changeCall();
        } else if (dice < 80) {
            planCall();
        } else if (dice < 88) {
            orderCall();
        } else {
            otherCall();
        }
    }

    private void textCall(int kind) {
        int dice = random.nextInt(10);
        if (dice < 3) {
            text(kind == 0 || random.nextInt(8) == 0 ? someText() : someNeed(m.count(0)));
            same("house", x.house(), m.house());
        } else if (dice < 8) {
            text(someFloor());
            same("floor", x.floor(), m.floor());
        } else {
            int n = near(1, 8);
            long bytes = random.nextLong();
            same("feed " + n, x.feed(n, bytes), m.feed(n, bytes));
            if (random.nextInt(3) == 0) same("house", x.house(), m.house());
            if (random.nextInt(3) == 0) same("floor", x.floor(), m.floor());
        }
    }

    private void lookCall() {
        int a = near(0, 5);
        int b = near(0, 4);
        switch (random.nextInt(5)) {
            case 0 -> same("room", x.room(a, b), m.room(a, b));
            case 1 -> same("door", x.door(a, b), m.door(a, b));
            case 2 -> same("need", x.need(a, b), m.need(a, b));
            case 3 -> same("stepOf", x.stepOf(a, b), m.stepOf(a, b));
            default -> {
                int c = near(-1, 18);
                same("count", x.count(c), m.count(c));
            }
        }
    }

    private void changeCall() {
        switch (random.nextInt(6)) {
            case 0 -> {
                int what = near(0, 3);
                int v = near(0, what == 3 ? 3 : what == 2 ? 60 : 24);
                same("set " + what + " " + v, x.set(what, v), m.set(what, v));
            }
            case 1 -> {
                int bits = random.nextInt(3) == 0 ? near(0, 63) : some(0, 31) << 1 & (1 << m.count(0) + 1) - 1;
                same("planks " + bits, x.planks(bits), m.planks(bits));
            }
            case 2 -> {
                if (random.nextInt(3) == 0) same("clear", x.clear(), m.clear());
            }
            default -> stepCall();
        }
    }

    private void stepCall() {
        int room = near(1, Math.max(1, m.count(0)));
        int hour = random.nextInt(4) == 0 ? near(0, 99) : Math.min(99, Math.max(0, m.done()) + some(-1, 12));
        hour = random.nextInt(30) == 0 ? near(0, 99) : hour;
        same("step " + room + " " + hour, x.step(room, hour), m.step(room, hour));
    }

    private void planCall() {
        int hour = near(0, random.nextBoolean() ? 40 : 99);
        switch (random.nextInt(7)) {
            case 0, 1 -> judgedCall();
            case 2 -> {
                int what = near(0, 1);
                same("judged " + what, x.judged(what), m.judged(what));
            }
            case 3 -> same("done", x.done(), m.done());
            case 4 -> {
                int i = near(0, 8);
                same("where " + i, x.where(i), m.where(i));
            }
            case 5 -> {
                int from = near(0, Math.max(1, m.count(0)));
                int to = near(0, Math.max(1, m.count(0)));
                same("way " + from + " " + to + " " + hour, x.way(from, to, hour), m.way(from, to, hour));
            }
            default -> same("free " + hour, x.free(hour), m.free(hour));
        }
    }

    private void judgedCall() {
        int thing = m.judged(1);
        same("judged 0", x.judged(0), m.judged(0));
        same("judged 1", x.judged(1), thing);
        judgedThings[Math.max(0, thing)]++;
    }

    private void orderCall() {
        int dice = random.nextInt(4);
        if (dice == 0) {
            int hour = near(0, 99);
            if (m.count(4) < 6 || random.nextInt(40) == 0) {
                same("fewest " + hour, x.fewest(hour), m.fewest(hour));
            }
        } else if (dice == 1) {
            same("cuts", x.cuts(), m.cuts());
        } else {
            same("soonest", x.soonest(), m.soonest());
            for (int i = 0; i < m.count(3); i++) {
                same("stepOf " + i + " 0", x.stepOf(i, 0), m.stepOf(i, 0));
                same("stepOf " + i + " 1", x.stepOf(i, 1), m.stepOf(i, 1));
            }
        }
    }

    private void otherCall() {
        switch (random.nextInt(6)) {
            case 0 -> same("cuts", x.cuts(), m.cuts());
            case 1, 2 -> same("out", x.out(), m.out());
            case 3 -> {
                int row = near(0, 4);
                int column = near(0, 4);
                same("square " + row + " " + column, x.square(row, column), m.square(row, column));
            }
            case 4 -> {
                if (random.nextInt(2) == 0) same("image", x.image(), m.image());
            }
            default -> {
                if (random.nextInt(3) == 0) same("on", x.on(), m.on());
            }
        }
    }
}
