import java.util.Arrays;

/** A picture cut by walls into houses, and what the folk who go through them come to know of it. */
public final class PaperHouses {
    public static final int NONE = -1000000, BAD = -1000001, STATE = -1000002, FULL = -1000003;

    private static final int BEFORE_FINDINGS = -1000010;
    private static final int BEFORE_PLACES = -1000100;
    private static final int NULL = 1, PLACE = 2, KIND = 3, SIZE = 4, STORE = 5;

    private static final int ALL_ROWS = 8, MOST_ITEMS = 40, LANES = 3;
    private static final int MOST_BYTES = 90;
    private static final int FEWEST_CELLS = 6, MOST_CELLS = 24, MOST_WALLS = 5, MOST_FOLK = 5;
    private static final int MOST_FADE = 24;
    private static final int LODGER = 1, WIDOWER = 2, SHORT = 3, DOCTOR = 4, BOY = 5, KINDS = 6;
    private static final int LAST_DAY = 9999;
    private static final int MOST_ACTS = 24;
    private static final int FARTHEST = 60;
    private static final int MOST_TOLD = 12;
    private static final int MOST_TRACED = 16;
    private static final int IMAGES = 2;

    private final Row[] rows;
    private final Folk[] sorts;
    private final Tape tape;
    private final Paper now;
    private final Paper draft;
    private final Paper[] images;
    private final Foretold foretold;
    private final Asked asked;
    private final int[][] acts;
    private int actsKept;
    private int nextAct;
    private int latestFinding;
    private int latestFault;

    public PaperHouses() {
        rows = new Row[ALL_ROWS];
        for (int r = 0; r < ALL_ROWS; r++) rows[r] = new Row();
        sorts = new Folk[KINDS];
        sorts[LODGER] = new Lodger();
        sorts[WIDOWER] = new Widower();
        sorts[SHORT] = new ShortOne();
        sorts[DOCTOR] = new Doctor();
        sorts[BOY] = new Boy();
        tape = new Tape();
        now = new Paper(sorts);
        draft = new Paper(sorts);
        images = new Paper[IMAGES];
        for (int k = 0; k < IMAGES; k++) images[k] = new Paper(sorts);
        foretold = new Foretold(now, sorts);
        asked = new Asked();
        acts = new int[MOST_ACTS][Paper.SCENE];
    }

    // ---- rows

    public int row(int row, int lane, int n) {
        Row it = rowAt(row);
        if (it == null || lane < 0 || lane >= LANES || n > MOST_ITEMS) return BAD;
        if (n < 0) return found(SIZE);
        it.lay(lane, n);
        return sound(n);
    }

    public int set(int row, int i, int v) {
        Row it = rowAt(row);
        if (it == null) return BAD;
        if (it.missing()) return found(NULL);
        if (!it.has(i, 1)) return found(PLACE);
        return sound(it.store(i, v));
    }

    public int copy(int a, int i, int b, int j, int n) {
        Row from = rowAt(a);
        Row to = rowAt(b);
        if (from == null || to == null) return BAD;
        if (from.missing() || to.missing()) return found(NULL);
        if (from.lane != to.lane) return found(STORE);
        if (!from.has(i, n) || !to.has(j, n)) return found(PLACE);
        System.arraycopy(from.items, i, to.items, j, n);
        return sound(n);
    }

    public int drop(int row) {
        Row it = rowAt(row);
        if (it == null) return BAD;
        if (it.missing()) return found(NULL);
        int had = it.size;
        it.lift();
        return sound(had);
    }

    // ---- papers, acts

    public int feed(int letter) {
        if (letter < 0 || letter > 255) return BAD;
        return tape.add(letter) ? tape.length : FULL;
    }

    public int paper() {
        boolean good = tape.readInto(draft);
        tape.length = 0;
        if (!good) {
            latestFault = tape.faultNumber;
            return BEFORE_PLACES - tape.faultPlace;
        }
        now.become(draft);
        forgetActs();
        return now.cells;
    }

    public int fault() {
        return latestFault;
    }

    public int days(int n) {
        if (noPaper()) return STATE;
        if (n < 1 || n > MOST_ACTS) return BAD;
        if (now.day + n > LAST_DAY) return FULL;
        for (int d = 0; d < n; d++) {
            keepAct();
            now.passDay();
        }
        return now.knownByAnybody();
    }

    public int move(int wall, int up) {
        if (!now.hasWall(wall) || !isBit(up)) return BAD;
        int place = now.walls[wall] + (up == 1 ? 1 : -1);
        if (!now.freeForWall(place)) return STATE;
        keepAct();
        now.walls[wall] = place;
        return place;
    }

    public int fade(int cell, int on) {
        if (!now.hasCell(cell) || !isBit(on)) return BAD;
        if (bitOf(now.faded, cell) == on) return STATE;
        keepAct();
        now.faded ^= 1 << cell;
        return now.faded;
    }

    public int put(int folk, int house) {
        if (!now.hasFolk(folk) || !now.hasHouse(house)) return BAD;
        keepAct();
        now.houses[folk] = house;
        now.knows[folk] |= now.seenBy(folk);
        return now.knows[folk];
    }

    public int undo() {
        if (actsKept == 0) return STATE;
        nextAct = nextAct == 0 ? MOST_ACTS - 1 : nextAct - 1;
        actsKept--;
        now.setScene(acts[nextAct]);
        return actsKept;
    }

    public int cell(int cell, int what) {
        if (!now.hasCell(cell)) return BAD;
        switch (what) {
            case 0: return now.figures[cell];
            case 1: return bitOf(now.faded, cell);
            case 2: return now.houseOf(cell);
            case 3: return now.folkWhoKnow(cell);
            default: return BAD;
        }
    }

    public int house(int house, int what) {
        if (!now.hasHouse(house)) return BAD;
        switch (what) {
            case 0: return now.startOf(house);
            case 1: return now.cellsIn(house);
            case 2: return now.folkIn(house);
            default: return BAD;
        }
    }

    public int folk(int folk, int what) {
        if (!now.hasFolk(folk)) return BAD;
        switch (what) {
            case 0: return now.houses[folk];
            case 1: return now.ways[folk];
            case 2: return now.knows[folk];
            case 3: return now.seenBy(folk);
            case 4: return now.periodOf(folk);
            default: return BAD;
        }
    }

    // ---- foretold

    public int ahead(int folk, int d, int what) {
        if (!now.hasFolk(folk) || d < 0 || d > FARTHEST || !isBit(what)) return BAD;
        return foretold.after(folk, d, what);
    }

    public int all(int folk) {
        if (!now.hasFolk(folk)) return BAD;
        return foretold.daysUntilAllKnown(folk);
    }

    public int first(int what) {
        if (noPaper()) return STATE;
        if (!isBit(what)) return BAD;
        return foretold.firstToKnowAll(what);
    }

    public int both(int one, int other, int what) {
        if (!now.hasFolk(one) || !now.hasFolk(other) || one == other || !isBit(what)) return BAD;
        int mine = now.knows[one];
        int theirs = now.knows[other];
        return what == 0 ? mine & theirs : Integer.bitCount((mine << 1) & theirs & ~mine);
    }

    public int together(int what) {
        if (noPaper()) return STATE;
        if (!isBit(what)) return BAD;
        int party = now.fewestWhoKnowAll();
        if (party == 0) return NONE;
        return what == 0 ? Integer.bitCount(party) : party;
    }

    public int beyond(int folk, int cell) {
        if (!now.hasFolk(folk) || cell < 0 || cell > 99) return BAD;
        return now.figureByPeriod(folk, cell);
    }

    public int piece(int row, int i, int n, int what) {
        if (noPaper()) return STATE;
        Row it = rowAt(row);
        if (it == null || n < 1 || n > MOST_TOLD || !isBit(what)) return BAD;
        if (it.missing()) return found(NULL);
        if (!it.has(i, n)) return found(PLACE);
        return sound(what == 0 ? now.countPlaces(it, i, n) : now.firstPlace(it, i, n));
    }

    public int room(int k) {
        if (noPaper()) return STATE;
        if (k < 1 || k > 8) return BAD;
        return foretold.fewestMoves(k);
    }

    public int rent(int house, int n) {
        if (!now.hasHouse(house) || n < 0 || n > 999) return BAD;
        return now.rentOf(house, n);
    }

    public int fits(int folk, int row, int i, int n, int what) {
        Row it = rowAt(row);
        if (!now.hasFolk(folk) || it == null || n < 1 || n > MOST_TOLD || what < 0 || what > 3) return BAD;
        if (it.missing()) return found(NULL);
        if (!it.has(i, n)) return found(PLACE);
        return sound(foretold.whichFit(folk, it, i, n, what));
    }

    public int settled(int folk, int cell, int d, int c, int what) {
        if (!now.hasFolk(folk) || !now.hasCell(cell) || d < 0 || d > 20) return BAD;
        if (c < 0 || c > 10 || !isBit(what)) return BAD;
        int above = foretold.tenthsThatKnow(folk, cell, d, c);
        int below = foretold.tenthsInAll();
        int common = commonDivisor(above, below);
        // A divisor below 1 can't come out, as there is always a whole; it is looked at all the same.
        if (common < 1) return NONE;
        return what == 0 ? above / common : below / common;
    }

    public int drawn(int n, int seed, int what) {
        if (noPaper()) return STATE;
        if (n < 0 || n > FARTHEST || seed < 1 || seed > 999999 || !isBit(what)) return BAD;
        return foretold.afterYears(n, seed, what);
    }

    public int image(int k) {
        Paper kept = imageAt(k);
        if (kept == null) return BAD;
        if (noPaper()) return STATE;
        kept.become(now);
        return 1;
    }

    public int restore(int k) {
        Paper kept = imageAt(k);
        if (kept == null) return BAD;
        if (kept.cells == 0) return STATE;
        now.become(kept);
        forgetActs();
        return 1;
    }

    // ---- asked

    public int kind(int folk) {
        return now.hasFolk(folk) ? now.kinds[folk] : BAD;
    }

    public int as(int folk, int kind) {
        if (!now.hasFolk(folk) || kind < 0 || kind >= KINDS) return BAD;
        if (!isOfKind(now.sortOf(folk), kind)) return found(KIND);
        return sound(folk);
    }

    public int ask(int folk, int what) {
        if (!now.hasFolk(folk) || !isBit(what)) return BAD;
        Folk sort = now.sortOf(folk);
        if (sort == null) return BAD;
        asked.begin(folk, now.houses[folk], Integer.bitCount(now.knows[folk]));
        return what == 0 ? sort.size(asked) : sort.mark(asked);
    }

    public int trace(int i) {
        return i >= 0 && i < asked.traced ? asked.bodies[i] : NONE;
    }

    public int count(int what) {
        switch (what) {
            case 0: return rowsThere();
            case 1: return now.cells;
            case 2: return now.wallCount;
            case 3: return now.folkCount;
            case 4: return now.day;
            case 5: return now.law;
            case 6: return now.faded;
            case 7: return now.knownByAnybody();
            case 8: return actsKept;
            case 9: return tape.length;
            default: return BAD;
        }
    }

    public int status() {
        return latestFinding;
    }

    // ---- what the calls share

    private int found(int finding) {
        latestFinding = finding;
        return BEFORE_FINDINGS - finding;
    }

    private int sound(int answer) {
        latestFinding = 0;
        return answer;
    }

    private boolean noPaper() {
        return now.cells == 0;
    }

    private Row rowAt(int row) {
        return row >= 0 && row < rows.length ? rows[row] : null;
    }

    private Paper imageAt(int k) {
        return k >= 0 && k < images.length ? images[k] : null;
    }

    private int rowsThere() {
        int there = 0;
        for (int r = 0; r < rows.length; r++) {
            Row it = rows[r];
            if (it != null && !it.missing()) there++;
        }
        return there;
    }

    // The rows of acts are used round and round, so that the oldest one is the one written over.
    private void keepAct() {
        now.getScene(acts[nextAct]);
        nextAct = nextAct == MOST_ACTS - 1 ? 0 : nextAct + 1;
        if (actsKept < MOST_ACTS) actsKept++;
    }

    private void forgetActs() {
        actsKept = 0;
        nextAct = 0;
    }

    private static boolean isBit(int n) {
        return n == 0 || n == 1;
    }

    private static int bitOf(int bits, int place) {
        return (bits >> place) & 1;
    }

    private static int commonDivisor(int a, int b) {
        int big = a;
        int small = b;
        for (int step = 0; step < 64 && small != 0; step++) {
            int rest = big % small;
            big = small;
            small = rest;
        }
        return big;
    }

    private static boolean isOfKind(Folk sort, int kind) {
        switch (kind) {
            case 0: return sort != null;
            case LODGER: return sort instanceof Lodger;
            case WIDOWER: return sort instanceof Widower;
            case SHORT: return sort instanceof ShortOne;
            case DOCTOR: return sort instanceof Doctor;
            case BOY: return sort instanceof Boy;
            default: return false;
        }
    }

    /** A row of items; its place in memory stays when it goes missing, so that it can be laid anew. */
    private static final class Row {
        private static final int MISSING = -1;

        private final int[] items = new int[MOST_ITEMS];
        private int lane = MISSING;
        private int size;

        private boolean missing() {
            return lane == MISSING;
        }

        private void lay(int newLane, int newSize) {
            Arrays.fill(items, 0);
            lane = newLane;
            size = newSize;
        }

        private void lift() {
            lane = MISSING;
            size = 0;
        }

        // Never i + n, which might pass the greatest int.
        private boolean has(int i, int n) {
            return i >= 0 && n >= 0 && i <= size - n;
        }

        private int store(int i, int v) {
            int cut = lane == 0 ? (byte) v : lane == 1 ? (short) v : v;
            items[i] = cut;
            return cut;
        }
    }

    /** The bytes that have come, and the reader that makes a paper of them or says where they fail. */
    private static final class Tape {
        private static final int END = -1, NUMBER = -2, TOO_LONG = -3;
        private static final int MISPLACED = 1, UNTOLD = 2, TOO_MANY = 3;

        private final int[] bytes = new int[MOST_BYTES];
        private int length;
        private int at;
        private int token;
        private int width;
        private int value;
        private int faultNumber;
        private int faultPlace;

        private boolean add(int letter) {
            if (length >= MOST_BYTES) return false;
            bytes[length] = letter;
            length++;
            return true;
        }

        private boolean readInto(Paper paper) {
            paper.clear();
            at = 0;
            width = 0;
            step();
            boolean good = readLaw(paper) && readPicture(paper) && readWalls(paper) && readFolk(paper);
            if (good) paper.seeWhatRises();
            return good;
        }

        private boolean readLaw(Paper paper) {
            if (!pass('q') || !passNumber(0, MOST_FADE)) return false;
            paper.law = value;
            return pass(';');
        }

        private boolean readPicture(Paper paper) {
            if (!pass('p')) return false;
            for (int k = 0; k < MOST_BYTES && token >= 'a' && token <= 'j'; k++) {
                if (paper.cells >= MOST_CELLS) return fail(TOO_MANY);
                paper.figures[paper.cells] = token - 'a';
                paper.cells++;
                step();
            }
            if (paper.cells < FEWEST_CELLS) return fail(MISPLACED);
            return pass(';');
        }

        private boolean readWalls(Paper paper) {
            int least = 1;
            for (int k = 0; k < MOST_BYTES && token == 'x'; k++) {
                if (paper.wallCount >= MOST_WALLS) return fail(TOO_MANY);
                step();
                if (!passNumber(least, paper.cells - 1)) return false;
                paper.walls[paper.wallCount] = value;
                paper.wallCount++;
                least = value + 1;
                if (!pass(';')) return false;
            }
            return true;
        }

        private boolean readFolk(Paper paper) {
            for (int k = 0; k < MOST_BYTES && token != END; k++) {
                int kind = kindByLetter(token);
                if (kind == 0) return fail(MISPLACED);
                if (paper.folkCount >= MOST_FOLK) return fail(TOO_MANY);
                step();
                if (!passNumber(0, paper.wallCount)) return false;
                int house = value;
                if (!pass(',') || !passNumber(0, 1)) return false;
                paper.addFolk(kind, house, value);
                if (!pass(';')) return false;
            }
            return true;
        }

        private static int kindByLetter(int letter) {
            switch (letter) {
                case 'l': return LODGER;
                case 'd': return WIDOWER;
                case 's': return SHORT;
                case 'o': return DOCTOR;
                case 'b': return BOY;
                default: return 0;
            }
        }

        private boolean pass(int wanted) {
            if (token != wanted) return fail(MISPLACED);
            step();
            return true;
        }

        // The value stays when the reader is past it: no number stands right behind another.
        private boolean passNumber(int least, int most) {
            if (token != NUMBER) return fail(MISPLACED);
            if (value < least || value > most) return fail(UNTOLD);
            step();
            return true;
        }

        private boolean fail(int number) {
            faultNumber = number;
            faultPlace = at;
            return false;
        }

        // A byte that is no token is taken as it is, as it can't stand anywhere.
        private void step() {
            at += width;
            width = 1;
            if (at >= length) token = END;
            else if (isFigure(at)) lookAtNumber();
            else token = bytes[at];
        }

        private void lookAtNumber() {
            value = bytes[at] - '0';
            token = NUMBER;
            if (!isFigure(at + 1)) return;
            value = value * 10 + bytes[at + 1] - '0';
            width = 2;
            if (isFigure(at + 2)) token = TOO_LONG;
        }

        private boolean isFigure(int place) {
            return place < length && bytes[place] >= '0' && bytes[place] <= '9';
        }
    }

    /** All that a paper tells and all that has come of it; without cells there is none. */
    private static final class Paper {
        private static final int SCENE = 2 + MOST_WALLS + 3 * MOST_FOLK;

        private final Folk[] sorts;
        private final int[] figures = new int[MOST_CELLS];
        private final int[] walls = new int[MOST_WALLS];
        private final int[] kinds = new int[MOST_FOLK];
        private final int[] houses = new int[MOST_FOLK];
        private final int[] ways = new int[MOST_FOLK];
        private final int[] knows = new int[MOST_FOLK];
        private int law;
        private int cells;
        private int wallCount;
        private int folkCount;
        private int rising;
        private int faded;
        private int day;

        private Paper(Folk[] sorts) {
            this.sorts = sorts;
        }

        private void clear() {
            law = 0;
            cells = 0;
            wallCount = 0;
            folkCount = 0;
            rising = 0;
            faded = 0;
            day = 0;
        }

        private void become(Paper other) {
            law = other.law;
            cells = other.cells;
            wallCount = other.wallCount;
            folkCount = other.folkCount;
            rising = other.rising;
            faded = other.faded;
            day = other.day;
            System.arraycopy(other.figures, 0, figures, 0, MOST_CELLS);
            System.arraycopy(other.walls, 0, walls, 0, MOST_WALLS);
            System.arraycopy(other.kinds, 0, kinds, 0, MOST_FOLK);
            System.arraycopy(other.houses, 0, houses, 0, MOST_FOLK);
            System.arraycopy(other.ways, 0, ways, 0, MOST_FOLK);
            System.arraycopy(other.knows, 0, knows, 0, MOST_FOLK);
        }

        private void addFolk(int kind, int house, int way) {
            kinds[folkCount] = kind;
            houses[folkCount] = house;
            ways[folkCount] = way;
            knows[folkCount] = 0;
            folkCount++;
        }

        // The figures never change, so what a doctor looks for is found once.
        private void seeWhatRises() {
            rising = 1;
            for (int c = 1; c < cells; c++) {
                if (figures[c] > figures[c - 1]) rising |= 1 << c;
            }
        }

        // A scene is what acts change: it is kept ahead of an act, and set again to undo it.
        private void getScene(int[] scene) {
            if (scene == null || scene.length < SCENE) return;
            scene[0] = day;
            scene[1] = faded;
            System.arraycopy(walls, 0, scene, 2, MOST_WALLS);
            System.arraycopy(houses, 0, scene, 2 + MOST_WALLS, MOST_FOLK);
            System.arraycopy(ways, 0, scene, 2 + MOST_WALLS + MOST_FOLK, MOST_FOLK);
            System.arraycopy(knows, 0, scene, 2 + MOST_WALLS + 2 * MOST_FOLK, MOST_FOLK);
        }

        private void setScene(int[] scene) {
            if (scene == null || scene.length < SCENE) return;
            day = scene[0];
            faded = scene[1];
            System.arraycopy(scene, 2, walls, 0, MOST_WALLS);
            System.arraycopy(scene, 2 + MOST_WALLS, houses, 0, MOST_FOLK);
            System.arraycopy(scene, 2 + MOST_WALLS + MOST_FOLK, ways, 0, MOST_FOLK);
            System.arraycopy(scene, 2 + MOST_WALLS + 2 * MOST_FOLK, knows, 0, MOST_FOLK);
        }

        private boolean hasCell(int cell) {
            return cell >= 0 && cell < cells;
        }

        private boolean hasWall(int wall) {
            return wall >= 0 && wall < wallCount;
        }

        private boolean hasHouse(int house) {
            return cells > 0 && house >= 0 && house <= wallCount;
        }

        private boolean hasFolk(int folk) {
            return folk >= 0 && folk < folkCount;
        }

        private int allCells() {
            return (1 << cells) - 1;
        }

        // The house behind the last one starts where the picture ends: so every house ends where the next starts.
        private int startOf(int house) {
            if (house <= 0) return 0;
            return house <= wallCount ? walls[house - 1] : cells;
        }

        private int cellsIn(int house) {
            return startOf(house + 1) - startOf(house);
        }

        private int cellBits(int house) {
            return (1 << startOf(house + 1)) - (1 << startOf(house));
        }

        private int houseOf(int cell) {
            int house = 0;
            for (int w = 0; w < wallCount; w++) {
                if (walls[w] <= cell) house++;
            }
            return house;
        }

        private boolean freeForWall(int place) {
            if (place < 1 || place >= cells) return false;
            for (int w = 0; w < wallCount; w++) {
                if (walls[w] == place) return false;
            }
            return true;
        }

        private void moveUpIfFree(int wall) {
            if (hasWall(wall) && freeForWall(walls[wall] + 1)) walls[wall]++;
        }

        private Folk sortOf(int folk) {
            int kind = kinds[folk];
            return kind >= 0 && kind < sorts.length ? sorts[kind] : null;
        }

        private int seenBy(int folk) {
            Folk sort = sortOf(folk);
            return sort == null ? 0 : sort.sees(this, cellBits(houses[folk]));
        }

        private void passDay() {
            for (int f = 0; f < folkCount; f++) walk(f);
            endDay();
        }

        private void walk(int folk) {
            boolean up = ways[folk] == 1;
            boolean last = up ? houses[folk] >= wallCount : houses[folk] <= 0;
            if (last) {
                up = !up;
                ways[folk] = up ? 1 : 0;
            }
            if (wallCount > 0) houses[folk] += up ? 1 : -1;
            knows[folk] |= seenBy(folk);
        }

        private void endDay() {
            if (law > 0 && cells > 0) faded |= 1 << (day * law % cells);
            day++;
        }

        private int knownByAnybody() {
            int known = 0;
            for (int f = 0; f < folkCount; f++) known |= knows[f];
            return known;
        }

        private int folkWhoKnow(int cell) {
            int who = 0;
            for (int f = 0; f < folkCount; f++) who |= bitOf(knows[f], cell) << f;
            return who;
        }

        private int folkIn(int house) {
            int who = 0;
            for (int f = 0; f < folkCount; f++) {
                if (houses[f] == house) who |= 1 << f;
            }
            return who;
        }

        private int fewestWhoKnowAll() {
            int best = 0;
            int fewest = MOST_FOLK + 1;
            for (int party = 1; party < 1 << folkCount; party++) {
                if (Integer.bitCount(party) < fewest && knownByParty(party) == allCells()) {
                    best = party;
                    fewest = Integer.bitCount(party);
                }
            }
            return best;
        }

        private int knownByParty(int party) {
            int known = 0;
            for (int f = 0; f < folkCount; f++) {
                if (bitOf(party, f) == 1) known |= knows[f];
            }
            return known;
        }

        // By a period of all cells no two leave the same, so one is always found.
        private int periodOf(int folk) {
            for (int period = 1; period < cells; period++) {
                if (goesOnBy(knows[folk], period)) return period;
            }
            return cells;
        }

        private boolean goesOnBy(int known, int period) {
            if (period < 1) return false;
            for (int c = 0; c < cells; c++) {
                if (bitOf(known, c) == 0) continue;
                for (int next = c + period; next < cells; next += period) {
                    if (bitOf(known, next) == 1 && figures[next] != figures[c]) return false;
                }
            }
            return true;
        }

        private int figureByPeriod(int folk, int cell) {
            int period = periodOf(folk);
            if (period < 1) return NONE;
            for (int c = cell % period; c < cells; c += period) {
                if (bitOf(knows[folk], c) == 1) return figures[c];
            }
            return NONE;
        }

        private int countPlaces(Row row, int i, int n) {
            int places = 0;
            for (int place = 0; place + n <= cells; place++) {
                if (isTold(row, i, n, place)) places++;
            }
            return places;
        }

        private int firstPlace(Row row, int i, int n) {
            for (int place = 0; place + n <= cells; place++) {
                if (isTold(row, i, n, place)) return place;
            }
            return NONE;
        }

        private boolean isTold(Row row, int i, int n, int place) {
            for (int k = 0; k < n; k++) {
                if (row.items[i + k] != figures[place + k]) return false;
            }
            return true;
        }

        private int rentOf(int house, int n) {
            int over = n;
            for (int h = 0; h <= wallCount; h++) over -= cutShare(h, n);
            return cutShare(house, n) + (house < over ? 1 : 0);
        }

        private int cutShare(int house, int n) {
            return cells > 0 ? n * cellsIn(house) / cells : 0;
        }
    }

    /** What would come: tried out on a paper of its own, so that nothing of the true one changes. */
    private static final class Foretold {
        private static final int TOO_FAR = 1000000;
        private static final int SORTS = 0, STARTS = 1, WAYS = 2;

        private final Paper now;
        private final Paper later;
        private final int[] reach = new int[MOST_CELLS + 1];

        private Foretold(Paper now, Folk[] sorts) {
            this.now = now;
            later = new Paper(sorts);
        }

        private int after(int folk, int days, int what) {
            later.become(now);
            goOn(folk, days);
            return what == 0 ? later.houses[folk] : later.knows[folk];
        }

        private void goOn(int folk, int days) {
            for (int d = 0; d < days; d++) {
                later.walk(folk);
                later.endDay();
            }
        }

        private int daysUntilAllKnown(int folk) {
            later.become(now);
            for (int d = 0; d <= FARTHEST; d++) {
                if (later.knows[folk] == later.allCells()) return d;
                later.walk(folk);
                later.endDay();
            }
            return NONE;
        }

        private int firstToKnowAll(int what) {
            int who = NONE;
            int fewest = FARTHEST + 1;
            for (int f = 0; f < now.folkCount; f++) {
                int days = daysUntilAllKnown(f);
                if (days != NONE && days < fewest) {
                    who = f;
                    fewest = days;
                }
            }
            return what == 0 || who == NONE ? who : fewest;
        }

        // reach[p] is the fewest moves by which the walls so far stand at p or below, no house of them too small.
        private int fewestMoves(int k) {
            Arrays.fill(reach, 0);
            for (int w = 0; w < now.wallCount; w++) {
                for (int p = now.cells; p >= 0; p--) {
                    reach[p] = p >= k ? reach[p - k] + Math.abs(p - now.walls[w]) : TOO_FAR;
                }
                for (int p = 1; p <= now.cells; p++) reach[p] = Math.min(reach[p], reach[p - 1]);
            }
            int last = now.cells - k;
            return last >= 0 && reach[last] < TOO_FAR ? reach[last] : NONE;
        }

        private int whichFit(int folk, Row row, int i, int n, int what) {
            int fitting = 0;
            for (int guess = leastGuess(what); guess <= greatestGuess(what); guess++) {
                later.become(now);
                suppose(folk, what, guess);
                if (cameToKnow(folk, row, i, n)) fitting |= 1 << guess;
            }
            return fitting;
        }

        private static int leastGuess(int what) {
            return what == SORTS ? LODGER : 0;
        }

        private int greatestGuess(int what) {
            switch (what) {
                case SORTS: return BOY;
                case STARTS: return now.wallCount;
                case WAYS: return 1;
                default: return MOST_FADE;
            }
        }

        private void suppose(int folk, int what, int guess) {
            switch (what) {
                case SORTS: later.kinds[folk] = guess; break;
                case STARTS: later.houses[folk] = guess; break;
                case WAYS: later.ways[folk] = guess; break;
                default: later.law = guess;
            }
        }

        private boolean cameToKnow(int folk, Row row, int i, int n) {
            for (int k = 0; k < n; k++) {
                later.walk(folk);
                later.endDay();
                if (Integer.bitCount(later.knows[folk]) != row.items[i + k]) return false;
            }
            return true;
        }

        private int tenthsInAll() {
            int tenths = 1;
            for (int w = 0; w < now.wallCount; w++) tenths *= 10;
            return tenths;
        }

        private int tenthsThatKnow(int folk, int cell, int days, int c) {
            int above = 0;
            for (int moved = 0; moved < 1 << now.wallCount; moved++) {
                int tenths = tenthsOf(moved, c);
                if (tenths == 0) continue;
                later.become(now);
                settle(moved);
                goOn(folk, days);
                above += tenths * bitOf(later.knows[folk], cell);
            }
            return above;
        }

        private int tenthsOf(int moved, int c) {
            int tenths = 1;
            for (int w = 0; w < now.wallCount; w++) tenths *= bitOf(moved, w) == 1 ? c : 10 - c;
            return tenths;
        }

        private void settle(int moved) {
            for (int w = later.wallCount - 1; w >= 0; w--) {
                if (bitOf(moved, w) == 1) later.moveUpIfFree(w);
            }
        }

        private int afterYears(int days, int seed, int what) {
            later.become(now);
            long x = seed;
            for (int d = 0; d < days; d++) {
                x = x * 16807 % 2147483647;
                if (later.cells > 0) later.faded ^= 1 << (int) (x % later.cells);
                if (later.wallCount > 0 && x % 5 == 0) later.moveUpIfFree((int) (x % later.wallCount));
                later.passDay();
            }
            return Integer.bitCount(what == 0 ? later.knownByAnybody() : later.faded);
        }
    }

    /** One who is asked, and the trace that the bodies leave meanwhile. */
    private static final class Asked {
        private final int[] bodies = new int[MOST_TRACED];
        private int traced;
        private int number;
        private int house;
        private int known;

        private void begin(int newNumber, int newHouse, int newKnown) {
            traced = 0;
            number = newNumber;
            house = newHouse;
            known = newKnown;
        }

        private void leave(int body) {
            if (traced >= MOST_TRACED) return;
            bodies[traced] = body;
            traced++;
        }
    }

    /** A kind of folk: what one of them sees in a house (bits of its cells), and the bodies of its asks. */
    private abstract static class Folk {
        abstract int sees(Paper paper, int house);

        int size(Asked one) {
            one.leave(10);
            return one.known;
        }

        int mark(Asked one) {
            one.leave(20);
            return one.number;
        }
    }

    private static class Lodger extends Folk {
        int sees(Paper paper, int house) {
            return house & ~paper.faded;
        }

        int size(Asked one) {
            one.leave(11);
            int known = super.size(one);
            return known + mark(one);
        }

        int mark(Asked one) {
            one.leave(21);
            return super.mark(one) + one.house;
        }
    }

    private static final class Widower extends Lodger {
        int sees(Paper paper, int house) {
            return (house | house << 1 | house >> 1) & paper.allCells() & ~paper.faded;
        }

        int size(Asked one) {
            one.leave(12);
            return 0 - super.size(one);
        }

        int mark(Asked one) {
            one.leave(24);
            return super.mark(one) * 2;
        }
    }

    private static final class ShortOne extends Lodger {
        private static final int EVEN_CELLS = 0x555555;

        int sees(Paper paper, int house) {
            return super.sees(paper, house) & EVEN_CELLS;
        }

        int mark(Asked one) {
            one.leave(22);
            return super.mark(one) - 1000;
        }
    }

    private static class Doctor extends Folk {
        int sees(Paper paper, int house) {
            return house & paper.rising & ~paper.faded;
        }

        int size(Asked one) {
            one.leave(13);
            return super.size(one) - 100;
        }

        int mark(Asked one) {
            one.leave(23);
            int number = super.mark(one);
            return number - size(one);
        }
    }

    private static final class Boy extends Doctor {
        int sees(Paper paper, int house) {
            return house & paper.rising;
        }

        int size(Asked one) {
            one.leave(14);
            return super.size(one) * 2;
        }
    }
}
