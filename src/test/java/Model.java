import java.util.ArrayDeque;
import java.util.ArrayList;
import java.util.HashMap;
import java.util.List;
import java.util.Map;
import java.util.TreeMap;
import java.util.regex.Matcher;
import java.util.regex.Pattern;

/**
 * A second reading of the document, as literal and plain as can be, slow, with the library's collections.
 * It shares nothing with the class, so that a slip in one of them shows.
 */
final class Model {
    enum Phase { NOTHING, PAINTED, WET, TACKY }

    record Need(int from, int to, int first, int last) { }

    record Step(int room, int hour) { }

    record Wrong(int hour, int thing) { }

    /** All that the image keeps; its lists are replaced, never changed. */
    record Picture(List<int[]> rooms, List<int[]> doors, List<Need> needs, int[] habits, int planks,
                   List<Step> plan, List<String> floor) { }

    static final int[] LEAST = {1, 0, 1, 1};
    static final int[] MOST = {24, 24, 99, 3};

    private List<int[]> rooms = List.of();
    private List<int[]> doors = List.of();
    private List<Need> needs = List.of();
    private int[] habits = {6, 2, 48, 1};
    private int planks = 0;
    private List<Step> plan = List.of();
    private List<String> floor = null;
    private Picture picture = null;
    private String tape = "";
    private final Map<Integer, Integer> refusals = new TreeMap<>();
    private final Map<Integer, Boolean> wayMemory = new HashMap<>();

    private int refuse(int kind) {
        refusals.merge(kind, 1, Integer::sum);
        return kind;
    }

    private static <T> List<T> with(List<T> list, T more) {
        List<T> longer = new ArrayList<>(list);
        longer.add(more);
        return longer;
    }

    // ---- texts

    int feed(int n, long bytes) {
        if (n < 1) return refuse(-4);
        if (n > 8) return refuse(-6);
        if (tape.length() + n > 48) return refuse(-6);
        for (int i = 0; i < n; i++) tape += (char) ((bytes >> (8 * i)) & 0xFF);
        return tape.length();
    }

    private static final Pattern STATEMENT =
        Pattern.compile("r([0-9])\\*([0-9]);|d([0-9])([0-9]);|n([0-9])([0-9])@([0-9]{1,2})-([0-9]{1,2});");
    private static final Pattern HOUSE = Pattern.compile("(?:" + STATEMENT.pattern() + ")+");

    int house() {
        String text = tape;
        tape = "";
        int stray = strayByte(text);
        if (stray >= 0) return -1000 - stray;
        List<int[]> r = rooms;
        List<int[]> d = doors;
        List<Need> n = needs;
        int statements = 0;
        Matcher m = STATEMENT.matcher(text);
        for (int at = 0; at < text.length(); at = m.end()) {
            if (!m.find(at) || m.start() != at) throw new IllegalStateException(text);
            statements++;
            int fault = -2000 - at;
            if (m.group(1) != null) {
                int work = Integer.parseInt(m.group(1));
                int coats = Integer.parseInt(m.group(2));
                if (work < 1 || coats < 1 || coats > 2 || r.size() == 5) return fault;
                r = with(r, new int[] {work, coats});
            } else if (m.group(3) != null) {
                int a = Integer.parseInt(m.group(3));
                int b = Integer.parseInt(m.group(4));
                if (a > r.size() || b > r.size() || a == b || d.size() == 12) return fault;
                if (isDoor(d, a, b)) return fault;
                d = with(d, new int[] {a, b});
            } else {
                int a = Integer.parseInt(m.group(5));
                int b = Integer.parseInt(m.group(6));
                int first = Integer.parseInt(m.group(7));
                int last = Integer.parseInt(m.group(8));
                if (a > r.size() || b > r.size() || a == b || n.size() == 8 || first > last) return fault;
                n = with(n, new Need(a, b, first, last));
            }
        }
        rooms = r;
        doors = d;
        needs = n;
        wayMemory.clear();
        return statements;
    }

    /** The least place such that the text up to and with it begins no HOUSE; -1 if it is one. */
    private static int strayByte(String text) {
        if (HOUSE.matcher(text).matches()) return -1;
        for (int end = 1; end <= text.length(); end++) {
            Matcher m = HOUSE.matcher(text.substring(0, end));
            // With hitEnd more signs could have made it match: the text so far can go on.
            boolean can = m.matches() || m.hitEnd();
            if (!can) return end - 1;
        }
        return text.length();
    }

    int floor() {
        String text = tape;
        tape = "";
        List<String> read = new ArrayList<>();
        String row = "";
        int squares = 0;
        boolean door = false;
        for (int i = 0; i < text.length(); i++) {
            char c = text.charAt(i);
            int most = read.isEmpty() ? 5 : read.get(0).length();
            if (c == '/') {
                if (row.isEmpty()) return -20 - i;
                if (!read.isEmpty() && row.length() != most) return -20 - i;
                read.add(row);
                row = "";
                if (read.size() == 5) return -20 - i;
                continue;
            }
            if (c != '.' && c != '#' && c != 'd') return -20 - i;
            if (row.length() == most) return -20 - i;
            if (c == 'd' && door) return -20 - i;
            if (c != '#' && squares == 10) return -20 - i;
            if (c == 'd') door = true;
            if (c != '#') squares++;
            row += c;
        }
        if (row.isEmpty() || !door) return -20 - text.length();
        if (!read.isEmpty() && row.length() != read.get(0).length()) return -20 - text.length();
        read.add(row);
        floor = read;
        return squares;
    }

    // ---- what there is

    private boolean isPlace(int p) {
        return 0 <= p && p <= rooms.size();
    }

    private boolean isRoom(int p) {
        return 1 <= p && p <= rooms.size();
    }

    private static boolean isDoor(List<int[]> doors, int a, int b) {
        for (int[] d : doors) {
            if (d[0] == a && d[1] == b || d[0] == b && d[1] == a) return true;
        }
        return false;
    }

    int room(int room, int what) {
        if (!isRoom(room)) return refuse(-1);
        if (what != 0 && what != 1) return refuse(-2);
        return rooms.get(room - 1)[what];
    }

    int door(int a, int b) {
        if (!isPlace(a) || !isPlace(b)) return refuse(-1);
        return isDoor(doors, a, b) ? 1 : 0;
    }

    int need(int i, int what) {
        if (i < 0 || i >= needs.size()) return refuse(-1);
        Need n = needs.get(i);
        return switch (what) {
            case 0 -> n.from();
            case 1 -> n.to();
            case 2 -> n.first();
            case 3 -> n.last();
            default -> refuse(-2);
        };
    }

    int set(int what, int v) {
        if (what < 0 || what > 3) return refuse(-2);
        if (v < LEAST[what]) return refuse(-4);
        if (v > MOST[what]) return refuse(-6);
        int was = habits[what];
        habits = habits.clone();
        habits[what] = v;
        return was;
    }

    int planks(int bits) {
        for (int b = 0; b < 32; b++) {
            if ((bits >>> b & 1) == 1 && !isRoom(b)) return refuse(-1);
        }
        int were = planks;
        planks = bits;
        return were;
    }

    int step(int room, int hour) {
        if (!isRoom(room)) return refuse(-1);
        if (hour < 0) return refuse(-4);
        if (hour > 99) return refuse(-6);
        if (plan.size() == 8) return refuse(-6);
        plan = with(plan, new Step(room, hour));
        return plan.size();
    }

    int stepOf(int i, int what) {
        if (i < 0 || i >= plan.size()) return refuse(-1);
        if (what != 0 && what != 1) return refuse(-2);
        return what == 0 ? plan.get(i).room() : plan.get(i).hour();
    }

    int clear() {
        int had = plan.size();
        plan = List.of();
        return had;
    }

    // ---- paint and ways

    private int lasts(int room) {
        return (int) Math.ceil(rooms.get(room - 1)[0] / (double) habits[3]);
    }

    private int doneAt(Step s) {
        return s.hour() + lasts(s.room());
    }

    private Phase phase(Step s, int hour) {
        int painted = doneAt(s);
        int wet = painted + habits[0];
        int tacky = wet + habits[1];
        if (hour < s.hour() || hour >= tacky) return Phase.NOTHING;
        if (hour < painted) return Phase.PAINTED;
        return hour < wet ? Phase.WET : Phase.TACKY;
    }

    private boolean isShut(int room, int hour, List<Step> by, int laid) {
        for (Step s : by) {
            if (s.room() != room) continue;
            Phase p = phase(s, hour);
            if (p == Phase.PAINTED) return true;
            if (p == Phase.WET && (laid >> room & 1) == 0) return true;
        }
        return false;
    }

    private int shutBits(int hour, List<Step> by, int laid) {
        int bits = 0;
        for (int r = 1; r <= rooms.size(); r++) {
            if (isShut(r, hour, by, laid)) bits |= 1 << r;
        }
        return bits;
    }

    /** How many doors at least, -9 none. */
    private int distance(int from, int to, int shut) {
        if ((shut >> from & 1) == 1 || (shut >> to & 1) == 1) return -9;
        Map<Integer, Integer> far = new HashMap<>();
        ArrayDeque<Integer> queue = new ArrayDeque<>();
        far.put(from, 0);
        queue.add(from);
        while (!queue.isEmpty()) {
            int at = queue.remove();
            for (int next = 0; next <= rooms.size(); next++) {
                if (isDoor(doors, at, next) && (shut >> next & 1) == 0 && !far.containsKey(next)) {
                    far.put(next, far.get(at) + 1);
                    queue.add(next);
                }
            }
        }
        return far.getOrDefault(to, -9);
    }

    private boolean canCome(int from, int to, int shut) {
        return wayMemory.computeIfAbsent(shut * 64 + from * 8 + to, k -> distance(from, to, shut) >= 0);
    }

    /** Where he is out, or -9 if he is shut in; the last of the steps is the one that is done. */
    private int outside(List<Step> steps, int laid) {
        Step last = steps.get(steps.size() - 1);
        int shut = shutBits(doneAt(last), steps, laid);
        for (int p = 0; p <= rooms.size(); p++) {
            if (isDoor(doors, last.room(), p) && (shut >> p & 1) == 0) return p;
        }
        return -9;
    }

    private int place(List<Step> steps, int laid) {
        if (steps.isEmpty()) return 0;
        int p = outside(steps, laid);
        return p >= 0 ? p : steps.get(steps.size() - 1).room();
    }

    private List<Wrong> wrongOfLast(List<Step> steps, int laid) {
        List<Wrong> wrong = new ArrayList<>();
        List<Step> ahead = steps.subList(0, steps.size() - 1);
        Step s = steps.get(steps.size() - 1);
        if (!canCome(place(ahead, laid), s.room(), shutBits(s.hour(), ahead, laid))) {
            wrong.add(new Wrong(s.hour(), 1));
        }
        if (outside(steps, laid) < 0) wrong.add(new Wrong(doneAt(s), 2));
        Step lastOfIt = null;
        int coats = 0;
        for (Step a : ahead) {
            if (a.room() != s.room()) continue;
            coats++;
            lastOfIt = a;
            if (phase(a, s.hour()) != Phase.NOTHING) wrong.add(new Wrong(s.hour(), 4));
        }
        if (lastOfIt != null && s.hour() > doneAt(lastOfIt) + habits[2]) wrong.add(new Wrong(s.hour(), 5));
        if (!ahead.isEmpty() && s.hour() < doneAt(ahead.get(ahead.size() - 1))) {
            wrong.add(new Wrong(s.hour(), 6));
        }
        if (coats + 1 > rooms.get(s.room() - 1)[1]) wrong.add(new Wrong(s.hour(), 7));
        return wrong;
    }

    private List<Wrong> needsWrong(List<Step> steps, int laid) {
        List<Wrong> wrong = new ArrayList<>();
        for (int hour = 0; hour <= 99; hour++) {
            for (Need n : needs) {
                if (n.first() <= hour && hour <= n.last()
                    && !canCome(n.from(), n.to(), shutBits(hour, steps, laid))) {
                    wrong.add(new Wrong(hour, 3));
                }
            }
        }
        return wrong;
    }

    int judged(int what) {
        if (what != 0 && what != 1) return refuse(-2);
        List<Wrong> wrong = needsWrong(plan, planks);
        for (int i = 1; i <= plan.size(); i++) wrong.addAll(wrongOfLast(plan.subList(0, i), planks));
        for (int r = 1; r <= rooms.size(); r++) {
            int coats = 0;
            for (Step s : plan) if (s.room() == r) coats++;
            if (coats < rooms.get(r - 1)[1]) wrong.add(new Wrong(99, 8));
        }
        if (wrong.isEmpty()) return -9;
        wrong.sort((a, b) -> a.hour() != b.hour() ? a.hour() - b.hour() : a.thing() - b.thing());
        return what == 0 ? wrong.get(0).hour() : wrong.get(0).thing();
    }

    int done() {
        return plan.isEmpty() ? -9 : doneAt(plan.get(plan.size() - 1));
    }

    int where(int i) {
        if (i < 0 || i > plan.size()) return refuse(-1);
        return place(plan.subList(0, i), planks);
    }

    // ---- orders

    private int coatsInAll() {
        int sum = 0;
        for (int[] r : rooms) sum += r[1];
        return sum;
    }

    /** Every order that can be, in the order of its rooms, with its steps. */
    private void orders(List<Step> begun, int laid, List<List<Step>> found) {
        if (begun.size() == coatsInAll()) {
            found.add(begun);
            return;
        }
        for (int r = 1; r <= rooms.size(); r++) {
            int coats = 0;
            for (Step s : begun) if (s.room() == r) coats++;
            if (coats == rooms.get(r - 1)[1]) continue;
            for (int hour = 0; hour <= 60; hour++) {
                List<Step> more = with(begun, new Step(r, hour));
                if (wrongOfLast(more, laid).isEmpty() && needsWrong(more, laid).isEmpty()) {
                    orders(more, laid, found);
                    break;
                }
            }
        }
    }

    private List<Step> soonestWith(int laid) {
        List<List<Step>> found = new ArrayList<>();
        orders(List.of(), laid, found);
        List<Step> best = null;
        for (List<Step> order : found) {
            if (best == null || doneAt(order.get(order.size() - 1)) < doneAt(best.get(best.size() - 1))) {
                best = order;
            }
        }
        return best;
    }

    int soonest() {
        if (rooms.isEmpty()) return refuse(-3);
        if (coatsInAll() > 6) return refuse(-6);
        List<Step> best = soonestWith(planks);
        if (best == null) return -9;
        plan = best;
        return done();
    }

    int fewest(int hour) {
        if (rooms.isEmpty()) return refuse(-3);
        if (hour < 0) return refuse(-4);
        if (hour > 99 || coatsInAll() > 6) return refuse(-6);
        int least = -9;
        for (int set = 0; set < 1 << rooms.size() + 1; set += 2) {
            if (least >= 0 && Integer.bitCount(set) >= Integer.bitCount(least)) continue;
            List<Step> best = soonestWith(set);
            if (best != null && doneAt(best.get(best.size() - 1)) <= hour) least = set;
        }
        return least;
    }

    int cuts() {
        int bits = 0;
        for (int r = 1; r <= rooms.size(); r++) {
            for (Need n : needs) {
                if (distance(n.from(), n.to(), 1 << r) < 0) bits |= 1 << r;
            }
        }
        return bits;
    }

    int way(int from, int to, int hour) {
        if (!isPlace(from) || !isPlace(to)) return refuse(-1);
        if (hour < 0) return refuse(-4);
        if (hour > 99) return refuse(-6);
        return distance(from, to, shutBits(hour, plan, planks));
    }

    int free(int hour) {
        if (hour < 0) return refuse(-4);
        if (hour > 99) return refuse(-6);
        int bits = 0;
        for (int p = 0; p <= rooms.size(); p++) {
            if (p == 0 || !isShut(p, hour, plan, planks)) bits |= 1 << p;
        }
        return bits;
    }

    // ---- the floor

    private char signAt(int row, int column) {
        if (row < 0 || row >= floor.size() || column < 0 || column >= floor.get(row).length()) return '#';
        return floor.get(row).charAt(column);
    }

    /** Move by move, with each choice of painting or not, as the document tells it. */
    int out() {
        if (floor == null) return refuse(-3);
        int door = -1;
        int others = 0;
        for (int row = 0; row < floor.size(); row++) {
            for (int column = 0; column < 5; column++) {
                if (signAt(row, column) == 'd') door = row * 5 + column;
                if (signAt(row, column) == '.') others |= 1 << row * 5 + column;
            }
        }
        record State(int at, int painted) { }
        Map<State, Integer> moves = new HashMap<>();
        ArrayDeque<State> queue = new ArrayDeque<>();
        State start = new State(door, 0);
        moves.put(start, 0);
        queue.add(start);
        int[][] sides = {{0, 1}, {0, -1}, {1, 0}, {-1, 0}};
        while (!queue.isEmpty()) {
            State s = queue.remove();
            if (s.at() == door && (s.painted() & others) == others) return moves.get(s);
            for (int[] side : sides) {
                int row = s.at() / 5 + side[0];
                int column = s.at() % 5 + side[1];
                if (signAt(row, column) == '#' || (s.painted() >> row * 5 + column & 1) == 1) continue;
                for (int painted : new int[] {s.painted(), s.painted() | 1 << s.at()}) {
                    State next = new State(row * 5 + column, painted);
                    if (moves.putIfAbsent(next, moves.get(s) + 1) == null) queue.add(next);
                }
            }
        }
        return -9;
    }

    int square(int row, int column) {
        if (floor == null) return refuse(-3);
        if (row < 0 || row >= floor.size() || column < 0 || column >= floor.get(0).length()) return refuse(-1);
        return "#.d".indexOf(signAt(row, column));
    }

    // ---- the image and the counts

    int image() {
        picture = new Picture(rooms, doors, needs, habits, planks, plan, floor);
        return rooms.size();
    }

    int on() {
        if (picture == null) return refuse(-3);
        rooms = picture.rooms();
        doors = picture.doors();
        needs = picture.needs();
        habits = picture.habits();
        planks = picture.planks();
        plan = picture.plan();
        floor = picture.floor();
        wayMemory.clear();
        return rooms.size();
    }

    int count(int what) {
        return switch (what) {
            case 0 -> rooms.size();
            case 1 -> doors.size();
            case 2 -> needs.size();
            case 3 -> plan.size();
            case 4 -> coatsInAll();
            case 5 -> tape.length();
            case 11, 12, 13, 14, 15, 16 -> refusals.getOrDefault(10 - what, 0);
            default -> -9;
        };
    }
}
