/** A pass of cells through which air goes from west to east, and the works that turn it. */
public final class WindCarver {
    public static final int NONE = -1000000, BAD = -1000001, STATE = -1000002, FULL = -1000003;

    private static final int FINDING = -1000010, FAULT = -1000100;
    private static final int NULL = 1, PLACE = 2, KIND = 3, SIZE = 4, STORE = 5;
    private static final int BYTES = 0, SHORTS = 1, INTS = 2;
    private static final int ROWS = 8, MOST_ITEMS = 40;
    private static final int SIDE = 4, CELLS = 16, MOST_WORKS = 6, MOST_HOLDS = 99;
    private static final int NOTHING = 0, WALL = 1, NET = 2, SHUTTER = 3, HAND = 4, VANE = 5;
    private static final int GUSTS = 32, LAST_HOUR = 999, MOST_HOURS = 20, MOST_ACTS = 24;
    private static final int FORETOLD_HOURS = 40, MOST_ASKED_FOR = 99, LOTS = 10, IMAGES = 2;

    /** Of each KIND the next that it is, too; -1 behind WORK, which is no other. */
    private static final int[] IS_TOO = {-1, 0, 1, 1, 0, 4};

    private final Row[] rows = new Row[ROWS];
    private final Text text = new Text();
    private final Pass now = new Pass();
    // Made once and used by every call that foretells or tries: a run has room for few objects.
    private final Pass other = new Pass();
    private final Air air = new Air();
    private final int[] chosen = new int[2];
    private final Acts acts = new Acts();
    private final Pass[] images = new Pass[IMAGES];
    private final Asked asked = new Asked();
    private int finding = 0;

    public WindCarver() {
        for (int row = 0; row < ROWS; row++) {
            rows[row] = new Row();
        }
        for (int k = 0; k < IMAGES; k++) {
            images[k] = new Pass();
        }
    }

    // ---- rows

    public int row(int row, int lane, int n) {
        if (!isUpTo(row, ROWS - 1) || !isUpTo(lane, INTS) || n > MOST_ITEMS) {
            return BAD;
        }
        if (n < 0) {
            return found(SIZE);
        }
        rows[row].make(lane, n);
        return withoutFinding(n);
    }

    public int set(int row, int i, int v) {
        if (!isUpTo(row, ROWS - 1)) {
            return BAD;
        }
        int wrong = findingIn(row, i, 1);
        if (wrong != 0) {
            return found(wrong);
        }
        int kept = rows[row].lowestBits(v);
        rows[row].items[i] = kept;
        return withoutFinding(kept);
    }

    public int copy(int a, int i, int b, int j, int n) {
        if (!isUpTo(a, ROWS - 1) || !isUpTo(b, ROWS - 1)) {
            return BAD;
        }
        Row from = rows[a];
        Row to = rows[b];
        if (!from.there || !to.there) {
            return found(NULL);
        }
        if (from.lane != to.lane) {
            return found(STORE);
        }
        if (!from.has(i, n) || !to.has(j, n)) {
            return found(PLACE);
        }
        System.arraycopy(from.items, i, to.items, j, n);
        return withoutFinding(n);
    }

    public int drop(int row) {
        if (!isUpTo(row, ROWS - 1)) {
            return BAD;
        }
        if (!rows[row].there) {
            return found(NULL);
        }
        rows[row].there = false;
        return withoutFinding(rows[row].length);
    }

    // ---- passes, acts

    public int feed(int letter) {
        if (!isUpTo(letter, 255)) {
            return BAD;
        }
        return text.add(letter) ? text.length : FULL;
    }

    public int pass() {
        boolean whole = text.read(other);
        text.length = 0;
        if (!whole) {
            return FAULT - text.place;
        }
        now.become(other);
        acts.kept = 0;
        return now.works();
    }

    public int fault() {
        return text.fault;
    }

    public int setUp(int cell, int kind, int holds) {
        if (!now.there) {
            return STATE;
        }
        if (!isCell(cell) || !isWorkKind(kind) || !isUpTo(holds, MOST_HOLDS)) {
            return BAD;
        }
        if (now.hasWork(cell)) {
            return STATE;
        }
        if (now.works() >= MOST_WORKS) {
            return FULL;
        }
        acts.keep(now);
        now.put(cell, kind, holds);
        return now.works();
    }

    public int take(int cell) {
        if (!now.there) {
            return STATE;
        }
        if (!isCell(cell)) {
            return BAD;
        }
        if (!now.hasWork(cell)) {
            return STATE;
        }
        acts.keep(now);
        now.clear(cell);
        return now.works();
    }

    public int turn(int cell) {
        if (!now.there) {
            return STATE;
        }
        if (!isCell(cell)) {
            return BAD;
        }
        if (now.kinds[cell] != SHUTTER) {
            return STATE;
        }
        acts.keep(now);
        now.open[cell] = 1 - now.open[cell];
        return now.open[cell];
    }

    public int gust(int y, int v) {
        if (!now.there) {
            return STATE;
        }
        if (!isLine(y) || !isUpTo(v, GUSTS - 1)) {
            return BAD;
        }
        int was = now.gusts[y];
        acts.keep(now);
        now.gusts[y] = v;
        return was;
    }

    public int hours(int n) {
        if (!now.there) {
            return STATE;
        }
        if (n < 1 || n > MOST_HOURS) {
            return BAD;
        }
        if (now.hour + n > LAST_HOUR) {
            return FULL;
        }
        for (int past = 0; past < n; past++) {
            acts.keep(now);
            spendHour(now);
        }
        return now.works();
    }

    public int undo() {
        if (acts.kept == 0) {
            return STATE;
        }
        acts.takeBack(now);
        return acts.kept;
    }

    public int cell(int cell, int what) {
        if (!now.there) {
            return STATE;
        }
        if (!isCell(cell) || !isUpTo(what, 3)) {
            return BAD;
        }
        if (what == 0) {
            return feltNow(cell);
        }
        if (!now.hasWork(cell)) {
            return NONE;
        }
        if (what == 1) {
            return now.kinds[cell];
        }
        return what == 2 ? now.holds[cell] : now.open[cell];
    }

    public int wind(int y, int what) {
        if (!now.there) {
            return STATE;
        }
        if (!isLine(y) || !isUpTo(what, 1)) {
            return BAD;
        }
        return what == 0 ? now.gusts[y] : now.rises[y];
    }

    // ---- foretold

    public int felt(int cell, int d) {
        if (!now.there) {
            return STATE;
        }
        if (!isCell(cell) || !isUpTo(d, FORETOLD_HOURS)) {
            return BAD;
        }
        foretell(d);
        return air.felt[cell];
    }

    public int lost(int d) {
        if (!now.there) {
            return STATE;
        }
        if (!isUpTo(d, FORETOLD_HOURS)) {
            return BAD;
        }
        foretell(d);
        return air.lost;
    }

    public int leaves(int y, int d) {
        if (!now.there) {
            return STATE;
        }
        if (!isLine(y) || !isUpTo(d, FORETOLD_HOURS)) {
            return BAD;
        }
        foretell(d);
        return air.leaving[y];
    }

    public int breaks(int what) {
        if (!now.there) {
            return STATE;
        }
        if (!isUpTo(what, 1)) {
            return BAD;
        }
        other.become(now);
        for (int hour = 1; hour <= FORETOLD_HOURS; hour++) {
            air.blow(other);
            int first = other.firstToBreak(air.felt);
            if (first != NONE) {
                return what == 0 ? hour : first;
            }
            spendHour(other);
        }
        return NONE;
    }

    public int stands(int row, int i) {
        if (!now.there) {
            return STATE;
        }
        if (!isUpTo(row, ROWS - 1)) {
            return BAD;
        }
        int wrong = findingIn(row, i, CELLS);
        if (wrong != 0) {
            return found(wrong);
        }
        other.become(now);
        for (int hour = 0; hour < FORETOLD_HOURS; hour++) {
            air.blow(other);
            if (!isFeltEverywhere(rows[row].items, i)) {
                return withoutFinding(hour);
            }
            spendHour(other);
        }
        return withoutFinding(FORETOLD_HOURS);
    }

    public int walls(int cell, int v, int k) {
        if (!now.there) {
            return STATE;
        }
        if (!isCell(cell) || !isUpTo(v, MOST_ASKED_FOR) || k < -1 || k > 1) {
            return BAD;
        }
        int many = chooseWalls(cell, v);
        if (k < 0 || many == NONE) {
            return many;
        }
        return k < many ? chosen[k] : NONE;
    }

    public int hidden(int kind, int y, int row, int i) {
        if (!now.there) {
            return STATE;
        }
        if (!isWorkKind(kind) || !isLine(y) || !isUpTo(row, ROWS - 1)) {
            return BAD;
        }
        int wrong = findingIn(row, i, SIDE);
        if (wrong != 0) {
            return found(wrong);
        }
        other.become(now);
        int cells = 0;
        for (int cell = 0; cell < CELLS; cell++) {
            if (!now.hasWork(cell)) {
                other.put(cell, kind, 0);
                air.blow(other);
                other.clear(cell);
                if (isFeltAlong(y, rows[row].items, i)) {
                    cells |= 1 << cell;
                }
            }
        }
        return withoutFinding(cells);
    }

    public int most(int y, int what) {
        if (!now.there) {
            return STATE;
        }
        if (!isLine(y) || !isUpTo(what, 1)) {
            return BAD;
        }
        other.become(now);
        int where = NONE;
        int much = NONE;
        for (int cell = 0; cell < CELLS; cell++) {
            if (!now.hasWork(cell)) {
                other.put(cell, WALL, 0);
                air.blow(other);
                other.clear(cell);
                if (air.leaving[y] > much) {
                    where = cell;
                    much = air.leaving[y];
                }
            }
        }
        return what == 0 ? where : much;
    }

    public int lots(int cell, int v, int c, int what) {
        if (!now.there) {
            return STATE;
        }
        if (!isCell(cell) || !isUpTo(v, MOST_ASKED_FOR) || !isUpTo(c, LOTS) || !isUpTo(what, 1)) {
            return BAD;
        }
        int cases = 1;
        int below = 1;
        for (int work = now.works(); work > 0; work--) {
            cases *= 2;
            below *= LOTS;
        }
        int above = 0;
        for (int broken = 0; broken < cases; broken++) {
            int weight = breakByLot(broken, c);
            air.blow(other);
            if (air.felt[cell] >= v) {
                above += weight;
            }
        }
        int divisor = commonDivisor(below, above);
        return (what == 0 ? above : below) / divisor;
    }

    public int image(int k) {
        if (!isUpTo(k, IMAGES - 1)) {
            return BAD;
        }
        if (!now.there) {
            return STATE;
        }
        images[k].become(now);
        return 1;
    }

    public int restore(int k) {
        if (!isUpTo(k, IMAGES - 1)) {
            return BAD;
        }
        if (!images[k].there) {
            return STATE;
        }
        now.become(images[k]);
        acts.kept = 0;
        return 1;
    }

    // ---- asked

    public int kind(int cell) {
        if (!now.there) {
            return STATE;
        }
        if (!isCell(cell)) {
            return BAD;
        }
        return now.hasWork(cell) ? now.kinds[cell] : NONE;
    }

    public int as(int cell, int kind) {
        if (!now.there) {
            return STATE;
        }
        if (!isCell(cell) || !isUpTo(kind, VANE)) {
            return BAD;
        }
        if (!now.hasWork(cell)) {
            return STATE;
        }
        return isA(now.kinds[cell], kind) ? withoutFinding(cell) : found(KIND);
    }

    public int ask(int cell, int what) {
        if (!now.there) {
            return STATE;
        }
        if (!isCell(cell) || !isUpTo(what, 1)) {
            return BAD;
        }
        if (!now.hasWork(cell)) {
            return STATE;
        }
        asked.kind = now.kinds[cell];
        asked.holds = now.holds[cell];
        asked.cell = cell;
        asked.felt = feltNow(cell);
        return what == 0 ? asked.askSize() : asked.askMark();
    }

    public int trace(int i) {
        return isUpTo(i, asked.traced - 1) ? asked.trace[i] : NONE;
    }

    public int count(int what) {
        switch (what) {
            case 0: return rowsThere();
            case 1: return now.works();
            case 2: return now.hour;
            case 3: return lostNow();
            case 4: return leavingNow();
            case 5: return acts.kept;
            case 6: return text.length;
            default: return BAD;
        }
    }

    public int status() {
        return finding;
    }

    // ---- what the calls have in common

    private static boolean isUpTo(int v, int last) {
        return v >= 0 && v <= last;
    }

    private static boolean isCell(int cell) {
        return isUpTo(cell, CELLS - 1);
    }

    private static boolean isLine(int y) {
        return isUpTo(y, SIDE - 1);
    }

    private static boolean isWorkKind(int kind) {
        return kind >= WALL && kind <= VANE;
    }

    private static boolean isA(int kind, int wanted) {
        int next = kind;
        for (int step = 0; step < IS_TOO.length && isUpTo(next, VANE); step++) {
            if (next == wanted) {
                return true;
            }
            next = IS_TOO[next];
        }
        return false;
    }

    private int found(int number) {
        finding = number;
        return FINDING - number;
    }

    private int withoutFinding(int answer) {
        finding = 0;
        return answer;
    }

    /** The FINDING that n ITEMS of a ROW from i on are, 0 where they all are there. */
    private int findingIn(int row, int i, int n) {
        if (!rows[row].there) {
            return NULL;
        }
        return rows[row].has(i, n) ? 0 : PLACE;
    }

    private int rowsThere() {
        int many = 0;
        for (int row = 0; row < ROWS; row++) {
            if (rows[row].there) {
                many++;
            }
        }
        return many;
    }

    private int feltNow(int cell) {
        air.blow(now);
        return air.felt[cell];
    }

    private int lostNow() {
        air.blow(now);
        return air.lost;
    }

    private int leavingNow() {
        air.blow(now);
        int all = 0;
        for (int y = 0; y < SIDE; y++) {
            all += air.leaving[y];
        }
        return all;
    }

    private void spendHour(Pass pass) {
        air.blow(pass);
        pass.breakAndRise(air.felt);
    }

    /** Leaves in the air what is FELT, LOST and LEAVES d HOURS from now. */
    private void foretell(int d) {
        other.become(now);
        for (int hour = 0; hour < d; hour++) {
            spendHour(other);
        }
        air.blow(other);
    }

    private boolean isFeltEverywhere(int[] items, int i) {
        for (int cell = 0; cell < CELLS; cell++) {
            if (items[i + cell] != air.felt[cell]) {
                return false;
            }
        }
        return true;
    }

    private boolean isFeltAlong(int y, int[] items, int i) {
        for (int x = 0; x < SIDE; x++) {
            if (items[i + x] != air.felt[SIDE * x + y]) {
                return false;
            }
        }
        return true;
    }

    /** How many walls are needed, NONE if two do not do; chosen has their cells. */
    private int chooseWalls(int cell, int v) {
        other.become(now);
        air.blow(other);
        if (air.felt[cell] >= v) {
            return 0;
        }
        if (chooseWall(0, 0, cell, v)) {
            return 1;
        }
        for (int first = 0; first < CELLS; first++) {
            if (!now.hasWork(first)) {
                other.put(first, WALL, 0);
                chosen[0] = first;
                if (chooseWall(1, first + 1, cell, v)) {
                    return 2;
                }
                other.clear(first);
            }
        }
        return NONE;
    }

    /** Looks from a cell on for the least on which one wall more does, and keeps it as chosen[k]. */
    private boolean chooseWall(int k, int from, int cell, int v) {
        for (int tried = from; tried < CELLS; tried++) {
            if (!now.hasWork(tried)) {
                other.put(tried, WALL, 0);
                air.blow(other);
                other.clear(tried);
                if (air.felt[cell] >= v) {
                    chosen[k] = tried;
                    return true;
                }
            }
        }
        return false;
    }

    /** Leaves in other the PASS without the WORKS told by bits: how often of all lots it is so. */
    private int breakByLot(int broken, int c) {
        other.become(now);
        int weight = 1;
        int rest = broken;
        for (int cell = 0; cell < CELLS; cell++) {
            if (now.hasWork(cell)) {
                if ((rest & 1) == 1) {
                    other.clear(cell);
                    weight *= c;
                } else {
                    weight *= LOTS - c;
                }
                rest >>= 1;
            }
        }
        return weight;
    }

    /** Never less than 1, so that it can divide. */
    private static int commonDivisor(int a, int b) {
        int greater = a;
        int lesser = b;
        for (int step = 0; step < 100 && lesser > 0; step++) {
            int rest = greater % lesser;
            greater = lesser;
            lesser = rest;
        }
        return Math.max(1, greater);
    }

    /** ITEMS of one LANE, kept at full length so that a new ROW needs no new array. */
    private static final class Row {
        final int[] items = new int[MOST_ITEMS];
        boolean there = false;
        int lane = 0;
        int length = 0;

        void make(int newLane, int n) {
            there = true;
            lane = newLane;
            length = n;
            for (int i = 0; i < MOST_ITEMS; i++) {
                items[i] = 0;
            }
        }

        boolean has(int i, int n) {
            return i >= 0 && n >= 0 && i <= length - n;
        }

        int lowestBits(int v) {
            if (lane == BYTES) {
                return (byte) v;
            }
            return lane == SHORTS ? (short) v : v;
        }
    }

    /** All of a pass that ACTS turn, that an IMAGE keeps, and that what is foretold begins with. */
    private static final class Pass {
        final int[] gusts = new int[SIDE];
        final int[] rises = new int[SIDE];
        final int[] kinds = new int[CELLS];
        final int[] holds = new int[CELLS];
        final int[] open = new int[CELLS];
        boolean there = false;
        int hour = 0;

        void become(Pass model) {
            System.arraycopy(model.gusts, 0, gusts, 0, SIDE);
            System.arraycopy(model.rises, 0, rises, 0, SIDE);
            System.arraycopy(model.kinds, 0, kinds, 0, CELLS);
            System.arraycopy(model.holds, 0, holds, 0, CELLS);
            System.arraycopy(model.open, 0, open, 0, CELLS);
            there = model.there;
            hour = model.hour;
        }

        void begin() {
            for (int cell = 0; cell < CELLS; cell++) {
                clear(cell);
            }
            there = true;
            hour = 0;
        }

        void put(int cell, int newKind, int newHolds) {
            kinds[cell] = newKind;
            holds[cell] = newHolds;
            open[cell] = 0;
        }

        void clear(int cell) {
            put(cell, NOTHING, 0);
        }

        boolean hasWork(int cell) {
            return kinds[cell] != NOTHING;
        }

        int works() {
            int many = 0;
            for (int cell = 0; cell < CELLS; cell++) {
                if (hasWork(cell)) {
                    many++;
                }
            }
            return many;
        }

        boolean isTooMuch(int cell, int felt) {
            return hasWork(cell) && felt > holds[cell];
        }

        int firstToBreak(int[] felt) {
            for (int cell = 0; cell < CELLS; cell++) {
                if (isTooMuch(cell, felt[cell])) {
                    return cell;
                }
            }
            return NONE;
        }

        void breakAndRise(int[] felt) {
            for (int cell = 0; cell < CELLS; cell++) {
                if (isTooMuch(cell, felt[cell])) {
                    clear(cell);
                }
            }
            hour++;
            for (int y = 0; y < SIDE; y++) {
                gusts[y] = (gusts[y] + rises[y]) % GUSTS;
            }
        }
    }

    /** Where the air of one HOUR goes. */
    private static final class Air {
        final int[] felt = new int[CELLS];
        final int[] leaving = new int[SIDE];
        int lost = 0;

        void blow(Pass pass) {
            for (int cell = 0; cell < CELLS; cell++) {
                felt[cell] = cell < SIDE ? pass.gusts[cell] : 0;
            }
            for (int y = 0; y < SIDE; y++) {
                leaving[y] = 0;
            }
            lost = 0;
            // Air goes eastward only, so a cell has all it feels when its turn comes.
            for (int cell = 0; cell < CELLS; cell++) {
                part(cell, on(pass, cell), pass);
            }
        }

        private int on(Pass pass, int cell) {
            switch (pass.kinds[cell]) {
                case NOTHING: return felt[cell];
                case NET: return felt[cell] / 2;
                case SHUTTER: return pass.open[cell] == 1 ? felt[cell] : 0;
                default: return 0;
            }
        }

        private void part(int cell, int on, Pass pass) {
            int turned = felt[cell] - on;
            int north = north(pass.kinds[cell], turned, pass.hour);
            int x = cell / SIDE + 1;
            int y = cell % SIDE;
            bring(x, y, on);
            bring(x, y - 1, north);
            bring(x, y + 1, turned - north);
        }

        private static int north(int kind, int turned, int hour) {
            switch (kind) {
                case HAND: return turned;
                case VANE: return hour % 2 == 0 ? turned : 0;
                default: return turned / 2;
            }
        }

        private void bring(int x, int y, int much) {
            if (y < 0 || y >= SIDE) {
                lost += much;
            } else if (x >= SIDE) {
                leaving[y] += much;
            } else {
                felt[SIDE * x + y] += much;
            }
        }
    }

    /** How the PASS was ahead of each ACT that can be undone, in a ring. */
    private static final class Acts {
        final Pass[] ahead = new Pass[MOST_ACTS];
        int next = 0;
        int kept = 0;

        Acts() {
            for (int act = 0; act < MOST_ACTS; act++) {
                ahead[act] = new Pass();
            }
        }

        void keep(Pass pass) {
            ahead[next].become(pass);
            next = (next + 1) % MOST_ACTS;
            kept = Math.min(kept + 1, MOST_ACTS);
        }

        void takeBack(Pass pass) {
            next = (next + MOST_ACTS - 1) % MOST_ACTS;
            kept--;
            pass.become(ahead[next]);
        }
    }

    /** The tape, and the reading of it TOKEN by TOKEN. */
    private static final class Text {
        static final int MOST = 120;
        static final int UNFIT = 1, NOT_AS_TOLD = 2, NO_ROOM = 3;

        final int[] tape = new int[MOST];
        int length = 0;
        int fault = 0;
        int place = 0;
        private int at = 0;

        boolean add(int letter) {
            if (length >= MOST) {
                return false;
            }
            tape[length] = letter;
            length++;
            return true;
        }

        boolean read(Pass into) {
            at = 0;
            into.begin();
            return readLines('a', into.gusts) && readLines('b', into.rises) && readWorks(into);
        }

        private boolean readLines(int letter, int[] values) {
            if (!readByte(letter)) {
                return false;
            }
            for (int y = 0; y < SIDE; y++) {
                values[y] = readNumber(GUSTS - 1);
                if (values[y] < 0 || !readByte(y < SIDE - 1 ? ',' : ';')) {
                    return false;
                }
            }
            return true;
        }

        private boolean readWorks(Pass into) {
            for (int works = 0; works <= MOST_WORKS && at < length; works++) {
                int kind = kindOf(tape[at]);
                if (kind == NOTHING) {
                    return fail(UNFIT, at);
                }
                if (works == MOST_WORKS) {
                    return fail(NO_ROOM, at);
                }
                at++;
                if (!readWork(kind, into)) {
                    return false;
                }
            }
            return true;
        }

        private boolean readWork(int kind, Pass into) {
            int x = readNumber(SIDE - 1);
            if (x < 0 || !readByte(',')) {
                return false;
            }
            int placeOfY = at;
            int y = readNumber(SIDE - 1);
            if (y < 0) {
                return false;
            }
            if (into.hasWork(SIDE * x + y)) {
                return fail(NOT_AS_TOLD, placeOfY);
            }
            if (!readByte(',')) {
                return false;
            }
            int holds = readNumber(MOST_HOLDS);
            if (holds < 0 || !readByte(';')) {
                return false;
            }
            into.put(SIDE * x + y, kind, holds);
            return true;
        }

        private static int kindOf(int letter) {
            switch (letter) {
                case 'w': return WALL;
                case 'n': return NET;
                case 's': return SHUTTER;
                case 'h': return HAND;
                case 'v': return VANE;
                default: return NOTHING;
            }
        }

        private boolean readByte(int due) {
            if (at >= length || tape[at] != due) {
                return fail(UNFIT, at);
            }
            at++;
            return true;
        }

        /** The NUMBER that comes next; -1 behind a FAULT. */
        private int readNumber(int last) {
            int figures = 0;
            int value = 0;
            while (figures < 3 && at + figures < length && isFigure(tape[at + figures])) {
                value = 10 * value + tape[at + figures] - '0';
                figures++;
            }
            if (figures == 0 || figures == 3) {
                fail(UNFIT, at);
                return -1;
            }
            if (value > last) {
                fail(NOT_AS_TOLD, at);
                return -1;
            }
            at += figures;
            return value;
        }

        private static boolean isFigure(int letter) {
            return letter >= '0' && letter <= '9';
        }

        private boolean fail(int number, int where) {
            fault = number;
            place = where;
            return false;
        }
    }

    /** A WORK that is asked, and THE TRACE of the BODIES that begin. */
    private static final class Asked {
        static final int MOST_TRACED = 16, DEEPEST = 16;

        final int[] trace = new int[MOST_TRACED];
        int traced = 0;
        int kind = NOTHING;
        int holds = 0;
        int cell = 0;
        int felt = 0;

        int askSize() {
            traced = 0;
            return body(this, sizeBody(kind), 0);
        }

        int askMark() {
            traced = 0;
            return body(this, markBody(kind), 0);
        }

        private static int sizeBody(int kind) {
            switch (kind) {
                case WALL:
                case SHUTTER: return 11;
                case NET: return 12;
                case HAND: return 13;
                case VANE: return 14;
                default: return 10;
            }
        }

        private static int markBody(int kind) {
            switch (kind) {
                case WALL: return 21;
                case NET: return 24;
                case SHUTTER: return 22;
                case HAND:
                case VANE: return 23;
                default: return 20;
            }
        }

        private static int body(Asked work, int number, int depth) {
            if (depth > DEEPEST) {
                return 0;
            }
            work.leave(number);
            int next = depth + 1;
            switch (number) {
                case 10: return work.holds;
                case 11: return body(work, 10, next) + body(work, markBody(work.kind), next);
                case 12: return -body(work, 11, next);
                case 13: return body(work, 10, next) - 100;
                case 14: return 2 * body(work, 13, next);
                case 20: return work.cell;
                case 21: return body(work, 20, next) + work.felt;
                case 22: return body(work, 21, next) - 1000;
                case 23: return body(work, 20, next) - body(work, sizeBody(work.kind), next);
                case 24: return 2 * body(work, 21, next);
                default: return 0;
            }
        }

        private void leave(int number) {
            if (traced < MOST_TRACED) {
                trace[traced] = number;
                traced++;
            }
        }
    }
}
