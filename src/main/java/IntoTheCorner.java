import java.util.Arrays;

/**
 * Painted into the corner: a house whose floors are painted, a painter who must come out again,
 * and people who must be able to pass. Words in capitals are those of the document, DOC.md.
 */
public final class IntoTheCorner {

    private static final int NOBODY = -1;
    private static final int OTHER = -2;
    private static final int STATE = -3;
    private static final int BELOW = -4;
    private static final int ABOVE = -6;
    private static final int NONE = -9;

    private static final int YARD = 0;
    private static final int MOST_ROOMS = 5;
    private static final int PLACES = MOST_ROOMS + 1;
    private static final int LAST_HOUR = 99;
    private static final int MOST_AT_ONCE = 8;

    private final int[] refusals;
    private final Tape tape;
    private final HouseReader houseReader;
    private final House houseDraft;
    private final Floor floorDraft;
    private final Ways ways;
    private final Judge judge;
    private final Search search;
    private final Outing outing;
    private final Scene now;
    private final Scene then;
    private boolean imageTaken;

    public IntoTheCorner() {
        refusals = new int[7];
        tape = new Tape();
        houseReader = new HouseReader(tape);
        houseDraft = new House();
        floorDraft = new Floor();
        now = new Scene();
        then = new Scene();
        ways = new Ways();
        ways.learn(now.building);
        judge = new Judge(now, ways);
        search = new Search(now, ways);
        outing = new Outing();
        imageTaken = false;
    }

    public int feed(int n, long bytes) {
        if (n < 1) {
            return refuse(BELOW);
        }
        if (n > MOST_AT_ONCE || !tape.hasRoomFor(n)) {
            return refuse(ABOVE);
        }
        tape.append(n, bytes);
        return tape.size();
    }

    public int house() {
        houseDraft.become(now.building);
        int answer = houseReader.read(houseDraft);
        tape.empty();
        if (answer > 0) {
            now.building.become(houseDraft);
            ways.learn(now.building);
        }
        return answer;
    }

    public int floor() {
        int fault = floorDraft.read(tape);
        tape.empty();
        if (fault != NONE) {
            return -20 - fault;
        }
        now.ground.become(floorDraft);
        return now.ground.squares;
    }

    public int room(int room, int what) {
        if (!now.building.hasRoom(room)) {
            return refuse(NOBODY);
        }
        switch (what) {
            case 0:
                return now.building.work[room];
            case 1:
                return now.building.coats[room];
            default:
                return refuse(OTHER);
        }
    }

    public int door(int a, int b) {
        if (!now.building.hasPlace(a) || !now.building.hasPlace(b)) {
            return refuse(NOBODY);
        }
        return now.building.joined(a, b) ? 1 : 0;
    }

    public int need(int i, int what) {
        if (i < 0 || i >= now.building.needs) {
            return refuse(NOBODY);
        }
        if (what < 0 || what >= House.NEED_PARTS) {
            return refuse(OTHER);
        }
        return now.building.needPart(i, what);
    }

    public int set(int what, int v) {
        if (what < 0 || what >= Scene.HABITS) {
            return refuse(OTHER);
        }
        if (v < Scene.LEAST[what]) {
            return refuse(BELOW);
        }
        if (v > Scene.MOST[what]) {
            return refuse(ABOVE);
        }
        int was = now.habits[what];
        now.habits[what] = v;
        return was;
    }

    public int planks(int rooms) {
        if ((rooms & ~now.building.everyRoom()) != 0) {
            return refuse(NOBODY);
        }
        int were = now.planked;
        now.planked = rooms;
        return were;
    }

    public int step(int room, int hour) {
        if (!now.building.hasRoom(room)) {
            return refuse(NOBODY);
        }
        int refusal = refusalOfHour(hour);
        if (refusal != 0) {
            return refuse(refusal);
        }
        if (now.row.isFull()) {
            return refuse(ABOVE);
        }
        now.row.append(room, hour);
        return now.row.steps;
    }

    public int stepOf(int i, int what) {
        if (i < 0 || i >= now.row.steps) {
            return refuse(NOBODY);
        }
        switch (what) {
            case 0:
                return now.row.rooms[i];
            case 1:
                return now.row.hours[i];
            default:
                return refuse(OTHER);
        }
    }

    public int clear() {
        int had = now.row.steps;
        now.row.shorten(0);
        return had;
    }

    public int judged(int what) {
        if (what != 0 && what != 1) {
            return refuse(OTHER);
        }
        judge.look();
        return what == 0 ? judge.leastHour : judge.leastThing;
    }

    public int done() {
        return now.row.steps == 0 ? NONE : now.doneHour(now.row.steps - 1);
    }

    public int where(int i) {
        if (i < 0 || i > now.row.steps) {
            return refuse(NOBODY);
        }
        return judge.placeBehind(i);
    }

    public int soonest() {
        if (now.building.rooms == 0) {
            return refuse(STATE);
        }
        if (now.building.coatsInAll() > Search.MOST_COATS) {
            return refuse(ABOVE);
        }
        int done = search.soonestWith(now.planked);
        if (done != NONE) {
            now.row.become(search.best);
        }
        return done;
    }

    public int fewest(int hour) {
        if (now.building.rooms == 0) {
            return refuse(STATE);
        }
        int refusal = refusalOfHour(hour);
        if (refusal != 0) {
            return refuse(refusal);
        }
        if (now.building.coatsInAll() > Search.MOST_COATS) {
            return refuse(ABOVE);
        }
        return search.fewestPlanksBy(hour);
    }

    public int cuts() {
        int bits = 0;
        for (int room = 1; room <= now.building.rooms; room++) {
            if (ways.barredNeeds(1 << room) != 0) {
                bits |= 1 << room;
            }
        }
        return bits;
    }

    public int way(int from, int to, int hour) {
        if (!now.building.hasPlace(from) || !now.building.hasPlace(to)) {
            return refuse(NOBODY);
        }
        int refusal = refusalOfHour(hour);
        if (refusal != 0) {
            return refuse(refusal);
        }
        return now.building.doorsBetween(from, to, now.shutBy(now.row.steps, hour));
    }

    public int free(int hour) {
        int refusal = refusalOfHour(hour);
        if (refusal != 0) {
            return refuse(refusal);
        }
        return now.building.everyPlace() & ~now.shutBy(now.row.steps, hour);
    }

    public int out() {
        if (now.ground.squares == 0) {
            return refuse(STATE);
        }
        return outing.leastMoves(now.ground);
    }

    public int square(int row, int column) {
        if (now.ground.squares == 0) {
            return refuse(STATE);
        }
        if (row < 0 || row >= now.ground.rows || column < 0 || column >= now.ground.columns) {
            return refuse(NOBODY);
        }
        return now.ground.sign(row, column);
    }

    public int image() {
        then.become(now);
        imageTaken = true;
        return now.building.rooms;
    }

    public int on() {
        if (!imageTaken) {
            return refuse(STATE);
        }
        now.become(then);
        ways.learn(now.building);
        return now.building.rooms;
    }

    public int count(int what) {
        switch (what) {
            case 0:
                return now.building.rooms;
            case 1:
                return now.building.doors;
            case 2:
                return now.building.needs;
            case 3:
                return now.row.steps;
            case 4:
                return now.building.coatsInAll();
            case 5:
                return tape.size();
            default:
                return what >= 11 && what <= 16 ? refusals[what - 10] : NONE;
        }
    }

    private int refuse(int refusal) {
        int kind = -refusal;
        if (kind >= 0 && kind < refusals.length) {
            refusals[kind]++;
        }
        return refusal;
    }

    /** The REFUSAL that an HOUR calls for, 0 if none. */
    private static int refusalOfHour(int hour) {
        if (hour < 0) {
            return BELOW;
        }
        return hour > LAST_HOUR ? ABOVE : 0;
    }

    /** THE TAPE: the bytes that came and are not read yet. */
    private static final class Tape {
        private static final int MOST = 48;

        private final int[] bytes = new int[MOST];
        private int length;

        boolean hasRoomFor(int n) {
            return n <= MOST - length;
        }

        void append(int n, long packed) {
            for (int i = 0; i < n && length < MOST; i++) {
                bytes[length] = (int) (packed >>> (8 * i)) & 255;
                length++;
            }
        }

        /** Beyond the end -1, which no byte is, so that a reader needs no look at the size. */
        int byteAt(int place) {
            return place >= 0 && place < length ? bytes[place] : -1;
        }

        int size() {
            return length;
        }

        void empty() {
            length = 0;
        }
    }

    /** THE YARD and the ROOMS with their DOORS, and the NEEDS. */
    private static final class House {
        private static final int MOST_DOORS = 12;
        private static final int MOST_NEEDS = 8;
        private static final int NEED_PARTS = 4;
        private static final int MOST_WORK = 9;
        private static final int MOST_COATS = 2;

        private int rooms;
        private int doors;
        private int needs;
        private final int[] work = new int[PLACES];
        private final int[] coats = new int[PLACES];
        private final int[] beside = new int[PLACES];
        private final int[] needParts = new int[MOST_NEEDS * NEED_PARTS];

        void become(House other) {
            rooms = other.rooms;
            doors = other.doors;
            needs = other.needs;
            System.arraycopy(other.work, 0, work, 0, PLACES);
            System.arraycopy(other.coats, 0, coats, 0, PLACES);
            System.arraycopy(other.beside, 0, beside, 0, PLACES);
            System.arraycopy(other.needParts, 0, needParts, 0, needParts.length);
        }

        boolean hasPlace(int place) {
            return place >= YARD && place <= rooms;
        }

        boolean hasRoom(int room) {
            return room > YARD && room <= rooms;
        }

        int everyPlace() {
            return (1 << (rooms + 1)) - 1;
        }

        int everyRoom() {
            return everyPlace() & ~(1 << YARD);
        }

        boolean joined(int a, int b) {
            return (beside[a] >> b & 1) != 0;
        }

        int needPart(int i, int part) {
            return needParts[i * NEED_PARTS + part];
        }

        int coatsInAll() {
            int sum = 0;
            for (int room = 1; room <= rooms; room++) {
                sum += coats[room];
            }
            return sum;
        }

        /** Whether the ROOM is as it must be; only then it is there. */
        boolean addRoom(int itsWork, int itsCoats) {
            if (itsWork < 1 || itsWork > MOST_WORK || itsCoats < 1 || itsCoats > MOST_COATS) {
                return false;
            }
            if (rooms >= MOST_ROOMS) {
                return false;
            }
            rooms++;
            work[rooms] = itsWork;
            coats[rooms] = itsCoats;
            return true;
        }

        /** Whether the DOOR is as it must be; only then it is there. */
        boolean addDoor(int a, int b) {
            if (!areTwoPlaces(a, b) || joined(a, b) || doors >= MOST_DOORS) {
                return false;
            }
            doors++;
            beside[a] |= 1 << b;
            beside[b] |= 1 << a;
            return true;
        }

        /** Whether the NEED is as it must be; only then it is there. */
        boolean addNeed(int from, int to, int first, int last) {
            if (!areTwoPlaces(from, to) || first > last || needs >= MOST_NEEDS) {
                return false;
            }
            int at = needs * NEED_PARTS;
            needParts[at] = from;
            needParts[at + 1] = to;
            needParts[at + 2] = first;
            needParts[at + 3] = last;
            needs++;
            return true;
        }

        private boolean areTwoPlaces(int a, int b) {
            return hasPlace(a) && hasPlace(b) && a != b;
        }

        /** The least room beside one that is not SHUT, or NONE. */
        int leastOpenBeside(int room, int shut) {
            int open = beside[room] & ~shut;
            for (int place = YARD; place <= rooms; place++) {
                if ((open >> place & 1) != 0) {
                    return place;
                }
            }
            return NONE;
        }

        /** How many DOORS at least, or NONE. */
        int doorsBetween(int from, int to, int shut) {
            int open = everyPlace() & ~shut;
            int come = (1 << from) & open;
            for (int passed = 0; passed < PLACES; passed++) {
                if ((come >> to & 1) != 0) {
                    return passed;
                }
                come = (come | besideAny(come)) & open;
            }
            return NONE;
        }

        private int besideAny(int places) {
            int bits = 0;
            for (int place = YARD; place <= rooms; place++) {
                if ((places >> place & 1) != 0) {
                    bits |= beside[place];
                }
            }
            return bits;
        }
    }

    /** Reads a HOUSE from THE TAPE. */
    private static final class HouseReader {
        private static final int STRAY_BYTE = -1000;
        private static final int WRONG_STATEMENT = -2000;

        private final Tape tape;
        private final int[] parts = new int[House.NEED_PARTS];
        private int at;

        HouseReader(Tape tape) {
            this.tape = tape;
        }

        /** How many STATEMENTS came to the house, or the FAULT; with one the house is not fit for use. */
        int read(House house) {
            // Kind 1 anywhere goes ahead of kind 2 anywhere, so all is read once before anything is taken.
            int stray = firstStrayByte();
            return stray == NONE ? takeStatements(house) : STRAY_BYTE - stray;
        }

        private int firstStrayByte() {
            at = 0;
            int statements = 0;
            for (; statements < Tape.MOST && at < tape.size(); statements++) {
                if (!readStatement()) {
                    return at;
                }
            }
            return statements == 0 ? at : NONE;
        }

        private int takeStatements(House house) {
            at = 0;
            int statements = 0;
            for (; statements < Tape.MOST && at < tape.size(); statements++) {
                int place = at;
                if (!readStatement() || !joins(house, tape.byteAt(place))) {
                    return WRONG_STATEMENT - place;
                }
            }
            return statements;
        }

        private boolean joins(House house, int letter) {
            switch (letter) {
                case 'r':
                    return house.addRoom(parts[0], parts[1]);
                case 'd':
                    return house.addDoor(parts[0], parts[1]);
                case 'n':
                    return house.addNeed(parts[0], parts[1], parts[2], parts[3]);
                default:
                    return false;
            }
        }

        /** Reads on to behind a STATEMENT, or up to the first byte that cannot stand. */
        private boolean readStatement() {
            if (reads('r')) {
                return readsDigit(0) && reads('*') && readsDigit(1) && reads(';');
            }
            if (reads('d')) {
                return readsDigit(0) && readsDigit(1) && reads(';');
            }
            return reads('n') && readsDigit(0) && readsDigit(1) && reads('@')
                && readsHour(2) && reads('-') && readsHour(3) && reads(';');
        }

        private boolean reads(char sign) {
            if (tape.byteAt(at) != sign) {
                return false;
            }
            at++;
            return true;
        }

        private boolean readsDigit(int part) {
            int digit = digitHere();
            if (digit == NONE) {
                return false;
            }
            parts[part] = digit;
            at++;
            return true;
        }

        private boolean readsHour(int part) {
            if (!readsDigit(part)) {
                return false;
            }
            int digit = digitHere();
            if (digit != NONE) {
                parts[part] = parts[part] * 10 + digit;
                at++;
            }
            return true;
        }

        private int digitHere() {
            int sign = tape.byteAt(at);
            return sign >= '0' && sign <= '9' ? sign - '0' : NONE;
        }
    }

    /** Which rooms one can come to, for every set of SHUT ROOMS: worked out once for a house. */
    private static final class Ways {
        // THE YARD is never SHUT, so its bit is left away.
        private static final int SHUT_SETS = 1 << MOST_ROOMS;
        private static final int LAST_SET = SHUT_SETS - 1;

        private final int[] comesTo = new int[SHUT_SETS * PLACES];
        private final int[] barred = new int[SHUT_SETS];

        void learn(House house) {
            int sets = 1 << house.rooms;
            for (int set = 0; set < sets && set < SHUT_SETS; set++) {
                int base = set * PLACES;
                learnDoors(house, base, house.everyPlace() & ~(set << 1));
                joinWays(house.rooms, base);
                barred[set] = barredIn(house, base);
            }
        }

        private void learnDoors(House house, int base, int open) {
            for (int place = YARD; place <= house.rooms; place++) {
                boolean isOpen = (open >> place & 1) != 0;
                comesTo[base + place] = isOpen ? (house.beside[place] | 1 << place) & open : 0;
            }
        }

        private void joinWays(int rooms, int base) {
            for (int middle = YARD; middle <= rooms; middle++) {
                for (int place = YARD; place <= rooms; place++) {
                    if ((comesTo[base + place] >> middle & 1) != 0) {
                        comesTo[base + place] |= comesTo[base + middle];
                    }
                }
            }
        }

        private int barredIn(House house, int base) {
            int bits = 0;
            for (int i = 0; i < house.needs; i++) {
                int come = comesTo[base + house.needPart(i, 0)];
                if ((come >> house.needPart(i, 1) & 1) == 0) {
                    bits |= 1 << i;
                }
            }
            return bits;
        }

        boolean leads(int from, int to, int shut) {
            int set = shut >> 1 & LAST_SET;
            return from >= YARD && from < PLACES && (comesTo[set * PLACES + from] >> to & 1) != 0;
        }

        /** NEEDS (bits) that fail while these rooms are SHUT. */
        int barredNeeds(int shut) {
            return barred[shut >> 1 & LAST_SET];
        }
    }

    /** A PLAN: STEPS in a row. */
    private static final class Plan {
        private static final int MOST_STEPS = 8;

        private int steps;
        private final int[] rooms = new int[MOST_STEPS];
        private final int[] hours = new int[MOST_STEPS];

        void become(Plan other) {
            steps = other.steps;
            System.arraycopy(other.rooms, 0, rooms, 0, MOST_STEPS);
            System.arraycopy(other.hours, 0, hours, 0, MOST_STEPS);
        }

        boolean isFull() {
            return steps >= MOST_STEPS;
        }

        void append(int room, int hour) {
            if (steps < MOST_STEPS) {
                rooms[steps] = room;
                hours[steps] = hour;
                steps++;
            }
        }

        void shorten(int to) {
            if (to >= 0 && to < steps) {
                steps = to;
            }
        }
    }

    /** All that THE IMAGE keeps. */
    private static final class Scene {
        private static final int WET = 0;
        private static final int TACKY = 1;
        private static final int LATE = 2;
        private static final int HANDS = 3;
        private static final int HABITS = 4;
        private static final int[] LEAST = {1, 0, 1, 1};
        private static final int[] MOST = {24, 24, 99, 3};

        private final House building = new House();
        private final Plan row = new Plan();
        private final Floor ground = new Floor();
        private final int[] habits = {6, 2, 48, 1};
        private int planked;

        void become(Scene other) {
            building.become(other.building);
            row.become(other.row);
            ground.become(other.ground);
            System.arraycopy(other.habits, 0, habits, 0, HABITS);
            planked = other.planked;
        }

        int coatHours(int room) {
            int hands = habits[HANDS];
            return hands < 1 ? building.work[room] : (building.work[room] + hands - 1) / hands;
        }

        /** For how long a coat that begins keeps its ROOM SHUT. */
        int shutHours(int room, int planks) {
            boolean walked = (planks >> room & 1) != 0;
            return coatHours(room) + (walked ? 0 : habits[WET]);
        }

        /** From when it begins until a coat is neither WET nor TACKY. */
        int dryHours(int room) {
            return coatHours(room) + habits[WET] + habits[TACKY];
        }

        int doneHour(int i) {
            return row.hours[i] + coatHours(row.rooms[i]);
        }

        /** ROOMS (bits) that are SHUT at an hour by so many STEPS from the first. */
        int shutBy(int steps, int hour) {
            int shut = 0;
            for (int i = 0; i < steps && i < row.steps; i++) {
                int since = hour - row.hours[i];
                if (since >= 0 && since < shutHours(row.rooms[i], planked)) {
                    shut |= 1 << row.rooms[i];
                }
            }
            return shut;
        }
    }

    /** Looks at the PLAN: where THE PAINTER is, and what is WRONG. */
    private static final class Judge {
        private static final int CANNOT_COME = 1;
        private static final int SHUT_IN = 2;
        private static final int NEED_FAILS = 3;
        private static final int NOT_DRY = 4;
        private static final int TOO_LATE = 5;
        private static final int STILL_AT_WORK = 6;
        private static final int TOO_MANY_COATS = 7;
        private static final int TOO_FEW_COATS = 8;

        private final Scene scene;
        private final Ways ways;
        private int leastHour;
        private int leastThing;

        Judge(Scene scene, Ways ways) {
            this.scene = scene;
            this.ways = ways;
        }

        /** Where he is behind so many STEPS: only the last of them tells. */
        int placeBehind(int steps) {
            if (steps < 1 || steps > scene.row.steps) {
                return YARD;
            }
            int outside = placeOutside(steps - 1);
            return outside == NONE ? scene.row.rooms[steps - 1] : outside;
        }

        private int placeOutside(int i) {
            int shut = scene.shutBy(i + 1, scene.doneHour(i));
            return scene.building.leastOpenBeside(scene.row.rooms[i], shut);
        }

        void look() {
            leastHour = NONE;
            leastThing = NONE;
            for (int i = 0; i < scene.row.steps; i++) {
                lookAtPainter(i);
                lookAtCoatsAhead(i);
            }
            lookAtNeeds();
            lookAtCoatsLacking();
        }

        private void wrong(int thing, int hour) {
            if (leastThing == NONE || hour < leastHour || hour == leastHour && thing < leastThing) {
                leastHour = hour;
                leastThing = thing;
            }
        }

        private void lookAtPainter(int i) {
            int hour = scene.row.hours[i];
            if (!ways.leads(placeBehind(i), scene.row.rooms[i], scene.shutBy(i, hour))) {
                wrong(CANNOT_COME, hour);
            }
            if (placeOutside(i) == NONE) {
                wrong(SHUT_IN, scene.doneHour(i));
            }
            if (i > 0 && hour < scene.doneHour(i - 1)) {
                wrong(STILL_AT_WORK, hour);
            }
        }

        private void lookAtCoatsAhead(int i) {
            int room = scene.row.rooms[i];
            int hour = scene.row.hours[i];
            int ahead = 0;
            int lastAhead = NONE;
            for (int j = 0; j < i; j++) {
                if (scene.row.rooms[j] == room) {
                    ahead++;
                    lastAhead = j;
                    int since = hour - scene.row.hours[j];
                    if (since >= 0 && since < scene.dryHours(room)) {
                        wrong(NOT_DRY, hour);
                    }
                }
            }
            if (lastAhead >= 0 && hour - scene.doneHour(lastAhead) > scene.habits[Scene.LATE]) {
                wrong(TOO_LATE, hour);
            }
            if (ahead >= scene.building.coats[room]) {
                wrong(TOO_MANY_COATS, hour);
            }
        }

        private void lookAtNeeds() {
            for (int hour = 0; hour <= LAST_HOUR; hour++) {
                int barred = ways.barredNeeds(scene.shutBy(scene.row.steps, hour));
                if ((barred & needsAt(scene.building, hour)) != 0) {
                    wrong(NEED_FAILS, hour);
                    return;
                }
            }
        }

        private void lookAtCoatsLacking() {
            for (int room = 1; room <= scene.building.rooms; room++) {
                int coats = 0;
                for (int i = 0; i < scene.row.steps; i++) {
                    if (scene.row.rooms[i] == room) {
                        coats++;
                    }
                }
                if (coats < scene.building.coats[room]) {
                    wrong(TOO_FEW_COATS, LAST_HOUR);
                }
            }
        }

        /** NEEDS (bits) whose hours this one is among. */
        static int needsAt(House house, int hour) {
            int bits = 0;
            for (int i = 0; i < house.needs; i++) {
                if (house.needPart(i, 2) <= hour && hour <= house.needPart(i, 3)) {
                    bits |= 1 << i;
                }
            }
            return bits;
        }
    }

    /** Goes through the orders of ROOMS for SOONEST and FEWEST PLANKS. */
    private static final class Search {
        private static final int MOST_COATS = 6;
        private static final int LAST_BEGIN = 60;
        // Above every hour at which an order can be DONE.
        private static final int NO_BOUND = 1000;
        private static final int UNPAINTED = -1;

        private final Scene scene;
        private final Ways ways;
        private final Plan best = new Plan();
        private final Plan trial = new Plan();
        private final int[] takes = new int[PLACES];
        private final int[] shuts = new int[PLACES];
        private final int[] dries = new int[PLACES];
        private final int[] coatsLeft = new int[PLACES];
        private final int[] lastBegin = new int[PLACES];
        // By hour: ROOMS that are SHUT by the STEPS so far, and NEEDS that ask for a way.
        private final int[] shutAt = new int[LAST_HOUR + 1];
        private final int[] askedAt = new int[LAST_HOUR + 1];
        private int bound;
        private boolean anyWillDo;
        private boolean found;

        Search(Scene scene, Ways ways) {
            this.scene = scene;
            this.ways = ways;
        }

        /** When SOONEST is DONE, its STEPS then being in best, or NONE. */
        int soonestWith(int planks) {
            learnNeeds();
            run(planks, NO_BOUND, false);
            return found ? bound : NONE;
        }

        int fewestPlanksBy(int hour) {
            learnNeeds();
            int rooms = scene.building.rooms;
            for (int size = 0; size <= rooms; size++) {
                for (int set = 0; set < 1 << rooms; set++) {
                    if (Integer.bitCount(set) == size) {
                        run(set << 1, hour + 1, true);
                        if (found) {
                            return set << 1;
                        }
                    }
                }
            }
            return NONE;
        }

        private void learnNeeds() {
            for (int hour = 0; hour <= LAST_HOUR; hour++) {
                askedAt[hour] = Judge.needsAt(scene.building, hour);
            }
        }

        /** Looks for orders that are DONE ahead of a bound, which becomes the hour of the best. */
        private void run(int planks, int bound, boolean anyWillDo) {
            this.bound = bound;
            this.anyWillDo = anyWillDo;
            found = false;
            trial.shorten(0);
            Arrays.fill(shutAt, 0);
            int rest = 0;
            for (int room = 1; room <= scene.building.rooms; room++) {
                takes[room] = scene.coatHours(room);
                shuts[room] = scene.shutHours(room, planks);
                dries[room] = scene.dryHours(room);
                coatsLeft[room] = scene.building.coats[room];
                lastBegin[room] = UNPAINTED;
                rest += takes[room] * coatsLeft[room];
            }
            // A NEED that no open house answers fails by any STEPS; afterwards only newly SHUT rooms matter.
            if (ways.barredNeeds(0) == 0) {
                goOn(0, YARD, 0, rest);
            }
        }

        /** Every order that begins as the trial does: rest is the hours of the coats still to come. */
        private void goOn(int depth, int place, int ready, int rest) {
            if (depth > MOST_COATS) {
                return;
            }
            if (rest == 0) {
                keepTrial(ready);
                return;
            }
            for (int room = 1; room <= scene.building.rooms; room++) {
                if (coatsLeft[room] == 0 || anyWillDo && found) {
                    continue;
                }
                int hour = leastBegin(room, place, ready, rest);
                if (hour != NONE) {
                    int done = hour + takes[room];
                    int begunBefore = lastBegin[room];
                    begin(room, hour);
                    goOn(depth + 1, placeOutside(room, done), done, rest - takes[room]);
                    takeBack(room, hour, begunBefore, depth);
                }
            }
        }

        private void keepTrial(int done) {
            found = true;
            bound = done;
            best.become(trial);
        }

        private void begin(int room, int hour) {
            trial.append(room, hour);
            coatsLeft[room]--;
            lastBegin[room] = hour;
            for (int h = hour; h < hour + shuts[room] && h <= LAST_HOUR; h++) {
                shutAt[h] |= 1 << room;
            }
        }

        /** Coats of one ROOM never overlap here (4 would be WRONG), so its bit can just go. */
        private void takeBack(int room, int hour, int begunBefore, int steps) {
            trial.shorten(steps);
            coatsLeft[room]++;
            lastBegin[room] = begunBefore;
            for (int h = hour; h < hour + shuts[room] && h <= LAST_HOUR; h++) {
                shutAt[h] &= ~(1 << room);
            }
        }

        /** The least HOUR at which the next STEP can begin and the order still beat the bound, or NONE. */
        private int leastBegin(int room, int place, int ready, int rest) {
            int from = ready;
            int to = Math.min(LAST_BEGIN, bound - 1 - rest);
            if (lastBegin[room] != UNPAINTED) {
                from = Math.max(from, lastBegin[room] + dries[room]);
                to = Math.min(to, lastBegin[room] + takes[room] + scene.habits[Scene.LATE]);
            }
            int lookedTo = from;
            int afterFailure = from;
            for (int hour = from; hour <= to; hour++) {
                for (; lookedTo < hour + shuts[room]; lookedTo++) {
                    if (needFails(lookedTo, room)) {
                        afterFailure = lookedTo + 1;
                    }
                }
                if (hour >= afterFailure && ways.leads(place, room, shutAt[hour])
                    && placeOutside(room, hour + takes[room]) != NONE) {
                    return hour;
                }
            }
            return NONE;
        }

        private boolean needFails(int hour, int room) {
            return hour <= LAST_HOUR
                && (ways.barredNeeds(shutAt[hour] | 1 << room) & askedAt[hour]) != 0;
        }

        private int placeOutside(int room, int done) {
            return done > LAST_HOUR ? NONE : scene.building.leastOpenBeside(room, shutAt[done]);
        }
    }

    /** A FLOOR by squares. */
    private static final class Floor {
        private static final int MOST_SIDE = 5;
        private static final int MOST_SQUARES = 10;
        private static final int BARE = 0;
        private static final int SQUARE = 1;
        private static final int AT_DOOR = 2;

        private final int[] signs = new int[MOST_SIDE * MOST_SIDE];
        private int rows;
        private int columns;
        private int squares;
        private boolean hasDoor;
        // Signs in the row that is being read.
        private int inRow;

        void become(Floor other) {
            System.arraycopy(other.signs, 0, signs, 0, signs.length);
            rows = other.rows;
            columns = other.columns;
            squares = other.squares;
            hasDoor = other.hasDoor;
            inRow = other.inRow;
        }

        int sign(int row, int column) {
            boolean isThere = row >= 0 && row < rows && column >= 0 && column < columns;
            return isThere ? signs[row * MOST_SIDE + column] : BARE;
        }

        /** The place of the FAULT, or NONE; with a FAULT this is not fit for use. */
        int read(Tape tape) {
            rows = 1;
            columns = 0;
            squares = 0;
            hasDoor = false;
            inRow = 0;
            for (int place = 0; place < tape.size(); place++) {
                int sign = tape.byteAt(place);
                boolean stands = sign == '/' ? beginsRow() : put(sign);
                if (!stands) {
                    return place;
                }
            }
            return hasDoor && inRow == columns ? NONE : tape.size();
        }

        private boolean beginsRow() {
            if (inRow == 0 || inRow < columns || rows >= MOST_SIDE) {
                return false;
            }
            rows++;
            inRow = 0;
            return true;
        }

        private boolean put(int sign) {
            if (sign != '.' && sign != '#' && sign != 'd' || inRow >= (rows == 1 ? MOST_SIDE : columns)) {
                return false;
            }
            if (sign != '#' && squares >= MOST_SQUARES || sign == 'd' && hasDoor) {
                return false;
            }
            signs[(rows - 1) * MOST_SIDE + inRow] = sign == '#' ? BARE : sign == '.' ? SQUARE : AT_DOOR;
            squares += sign == '#' ? 0 : 1;
            hasDoor = hasDoor || sign == 'd';
            inRow++;
            columns = Math.max(columns, inRow);
            return true;
        }
    }

    /**
     * Looks for OUT. A square can be painted when he leaves it for the last time, and then is in no way of his:
     * so OUT is the shortest walk from the door over all squares and back, whatever he paints on it.
     */
    private static final class Outing {
        private static final int SETS = 1 << Floor.MOST_SQUARES;
        private static final int SQUARE_BITS = Floor.MOST_SQUARES;

        private final int[] numbers = new int[Floor.MOST_SIDE * Floor.MOST_SIDE];
        private final int[] beside = new int[Floor.MOST_SQUARES];
        // By the set of squares walked: where he was by then, where he is after this move, and after the next.
        private int[] been;
        private int squares;
        private int door;

        int leastMoves(Floor floor) {
            number(floor);
            join(floor);
            if (been == null) {
                been = new int[SETS];
            }
            Arrays.fill(been, 0);
            been[1 << door] = frontOf(1 << door);
            // A walk down and up a tree of all squares is never longer, so he is out by then or never.
            int mostMoves = 2 * (squares - 1);
            int all = (1 << squares) - 1;
            for (int moves = 0; moves <= mostMoves; moves++) {
                if ((been[all] & frontOf(1 << door)) != 0) {
                    return moves;
                }
                moveOn();
            }
            return NONE;
        }

        private void number(Floor floor) {
            squares = 0;
            door = 0;
            for (int row = 0; row < floor.rows; row++) {
                for (int column = 0; column < floor.columns; column++) {
                    int sign = floor.sign(row, column);
                    if (sign == Floor.AT_DOOR) {
                        door = squares;
                    }
                    if (sign != Floor.BARE && squares < Floor.MOST_SQUARES) {
                        numbers[row * Floor.MOST_SIDE + column] = squares;
                        squares++;
                    }
                }
            }
        }

        private void join(Floor floor) {
            Arrays.fill(beside, 0);
            for (int row = 0; row < floor.rows; row++) {
                for (int column = 0; column < floor.columns; column++) {
                    if (floor.sign(row, column) != Floor.BARE) {
                        int here = row * Floor.MOST_SIDE + column;
                        if (floor.sign(row, column + 1) != Floor.BARE) {
                            joinTwo(numbers[here], numbers[here + 1]);
                        }
                        if (floor.sign(row + 1, column) != Floor.BARE) {
                            joinTwo(numbers[here], numbers[here + Floor.MOST_SIDE]);
                        }
                    }
                }
            }
        }

        private void joinTwo(int a, int b) {
            beside[a] |= 1 << b;
            beside[b] |= 1 << a;
        }

        private static int frontOf(int places) {
            return places << SQUARE_BITS;
        }

        private void moveOn() {
            for (int set = 0; set < 1 << squares; set++) {
                int front = been[set] >> SQUARE_BITS & (SETS - 1);
                for (int place = 0; front != 0 && place < squares; place++) {
                    if ((front >> place & 1) != 0) {
                        moveFrom(set, place);
                    }
                }
            }
            for (int set = 0; set < 1 << squares; set++) {
                int places = been[set] & (SETS - 1) | been[set] >> SQUARE_BITS & (SETS - 1);
                int next = been[set] >> 2 * SQUARE_BITS & ~places;
                been[set] = places | frontOf(next);
            }
        }

        private void moveFrom(int set, int place) {
            for (int to = 0; to < squares; to++) {
                if ((beside[place] >> to & 1) != 0) {
                    been[set | 1 << to] |= 1 << 2 * SQUARE_BITS + to;
                }
            }
        }
    }
}
