/**
 * A drifting town of rafts whose anchors are left to heirs.
 * What each call answers is told by the promises of ../shared/DOC.md.
 */
public final class AnchorWills {
    public static final int BAD = -1, STATE = -2, FULL = -3, NONE = -9;
    public static final int NO = -1000000;

    private static final int CELLS = 10, RAFTS = 6, ANCHORS = 8;
    private static final int DEEPEST = 9, GRIPPIEST = 3, HEAVIEST = 9, LONGEST = 60, DEAREST = 99;
    private static final int MOST = 99, OLDEST = 99, RICHEST = 9999, ROW_OF_STORMS = 4;
    private static final int LIES = 0, UP = 1, LOST = 2;

    private final Told told;
    private final Told draft;
    private final Now now;
    private final Past past;
    private final Image firstImage;
    private final Image secondImage;
    private final Reader reader;
    private final Sea sea;
    private final Berths berths;
    private final Heirs heirs;
    private final Heard heard;
    private final Kinds kinds;

    public AnchorWills() {
        told = new Told();
        draft = new Told();
        now = new Now();
        past = new Past();
        firstImage = new Image();
        secondImage = new Image();
        reader = new Reader();
        sea = new Sea(told, now);
        berths = new Berths(told, now);
        heirs = new Heirs(told, now);
        heard = new Heard(told, now);
        kinds = new Kinds(told, now);
    }

    // ---- the town

    public int type(int c) {
        if (isOutside(c, 0, 255)) {
            return BAD;
        }
        return reader.takes(c) ? reader.length : FULL;
    }

    public int clear() {
        int had = reader.length;
        reader.length = 0;
        return had;
    }

    public int town() {
        int items = reader.readInto(draft);
        if (items < 0) {
            return items;
        }
        told.becomes(draft);
        now.becomes(told.first);
        past.known = 0;
        heard.known = 0;
        firstImage.isKept = false;
        secondImage.isKept = false;
        reader.length = 0;
        return items;
    }

    public int cell(int x, int what) {
        if (isOutside(x, 0, CELLS - 1) || isOutside(what, 0, 2)) {
            return BAD;
        }
        switch (what) {
            case 0: return at(told.deep, x);
            case 1: return at(told.grip, x);
            default: return lyingIn(told, now, x);
        }
    }

    public int raft(int r, int what) {
        if (isNoRaft(r) || isOutside(what, 0, 5)) {
            return BAD;
        }
        switch (what) {
            case 0: return now.get(Now.NEXT, r);
            case 1: return now.isGone(r) ? 1 : 0;
            case 2: return now.get(Now.WEALTH, r);
            case 3: return heirs.estateOf(r);
            case 4: return heirs.townOf(r);
            default: return heirs.mightOf(heirs.townOf(r));
        }
    }

    public int anchor(int a, int what) {
        if (isNoAnchor(a) || isOutside(what, 0, 8)) {
            return BAD;
        }
        switch (what) {
            case 0: return at(told.owner, a);
            case 1: return now.get(Now.CELL, a);
            case 2: return at(told.weight, a);
            case 3: return now.get(Now.LINKS, a);
            case 4: return at(told.worth, a);
            case 5: return now.get(Now.AGE, a);
            case 6: return now.get(Now.HOW, a);
            case 7: return now.lies(a) ? sea.holdOf(a) : NONE;
            default: return heirs.whoseIs(a);
        }
    }

    // ---- what is done

    public int storms(int f, int side) {
        if (isNoForce(f) || isOutside(side, 0, 1)) {
            return BAD;
        }
        past.remembers(now);
        return sea.blowsOver(now, f, side);
    }

    public int pays(int a, int n) {
        if (isNoAnchor(a) || n == 0 || isOutside(n, -9, 9)) {
            return BAD;
        }
        int links = now.get(Now.LINKS, a) + n;
        if (!now.lies(a) || isOutside(links, 1, LONGEST)) {
            return STATE;
        }
        past.remembers(now);
        now.set(Now.LINKS, a, links);
        return links;
    }

    public int dies(int r) {
        if (isNoRaft(r)) {
            return BAD;
        }
        if (now.isGone(r)) {
            return STATE;
        }
        past.remembers(now);
        now.set(Now.GONE, 0, now.goneRafts() | bit(r));
        return Integer.bitCount(now.goneRafts());
    }

    public int wills(int r, int next) {
        if (isNoRaft(r) || isNoRaft(next)) {
            return BAD;
        }
        int before = now.get(Now.NEXT, r);
        if (now.isGone(r) || before == next) {
            return STATE;
        }
        past.remembers(now);
        now.set(Now.NEXT, r, next);
        return before;
    }

    public int year() {
        past.remembers(now);
        int ages = 0;
        for (int a = 0; a < told.anchors; a++) {
            if (now.lies(a)) {
                int age = Math.min(now.get(Now.AGE, a) + 1, OLDEST);
                now.set(Now.AGE, a, age);
                ages += age;
            }
        }
        return ages;
    }

    public int hauls(int r, int a) {
        if (isNoRaft(r) || isNoAnchor(a)) {
            return BAD;
        }
        if (!heirs.mayHaul(r, a)) {
            return STATE;
        }
        past.remembers(now);
        int wealth = Math.min(now.get(Now.WEALTH, r) + heirs.valueOf(a), RICHEST);
        now.set(Now.HOW, a, UP);
        now.set(Now.WEALTH, r, wealth);
        return wealth;
    }

    public int undo() {
        return past.bringsBack(now) ? past.known : STATE;
    }

    public int now(int what) {
        if (isOutside(what, 0, 4)) {
            return BAD;
        }
        switch (what) {
            case 3: return now.goneRafts();
            case 4: return heirs.wealthOfAll();
            default: return thoseThatAre(told, now, what);
        }
    }

    // ---- what could be

    public int needs(int a, int f) {
        if (isNoAnchor(a) || isNoForce(f)) {
            return BAD;
        }
        return now.lies(a) ? sea.fewestLinks(a, f) : STATE;
    }

    public int after(int a, int f, int side) {
        if (isNoAnchor(a) || isNoForce(f) || isOutside(side, 0, 1)) {
            return BAD;
        }
        return sea.cellBehind(a, f, side);
    }

    public int wreck(int f, int n, int what) {
        if (isNoForce(f) || isOutside(n, 0, ROW_OF_STORMS) || isOutside(what, 0, 1)) {
            return BAD;
        }
        int worst = sea.worstRow(f, n);
        return what == 0 ? worst >> ROW_OF_STORMS : worst & (bit(ROW_OF_STORMS) - 1);
    }

    public int place(int set, int f, int a) {
        if (isOutside(set, 0, bit(told.anchors) - 1) || isNoForce(f) || isNoAnchor(a) || !has(set, a)) {
            return BAD;
        }
        if ((set & thoseThatAre(told, now, LIES)) != set) {
            return STATE;
        }
        return berths.berthOf(set, f, a);
    }

    public int vital(int r, int f) {
        if (isNoRaft(r) || isNoForce(f)) {
            return BAD;
        }
        return heirs.vitalFor(r, f);
    }

    public int odds(int a, int m, int n, int what) {
        if (isNoAnchor(a) || isNoForce(m) || isOutside(n, 0, ROW_OF_STORMS) || isOutside(what, 0, 1)) {
            return BAD;
        }
        if (!now.lies(a)) {
            return STATE;
        }
        int held = Math.min(sea.holdOf(a), m);
        int common = commonPart(held, m);
        return power(what == 0 ? divided(held, common) : divided(m, common), n);
    }

    // ---- which it was

    public int hears(int f, int held) {
        if (isNoForce(f) || isOutside(held, 0, 1)) {
            return BAD;
        }
        return heard.takes(f, held) ? heard.known : FULL;
    }

    public int forget() {
        int knew = heard.known;
        heard.known = 0;
        return knew;
    }

    public int fits() {
        return heard.fitting();
    }

    public int ask() {
        return heard.bestQuestion();
    }

    // ---- kinds, images

    public int mark(int kind, int a) {
        if (isOutside(kind, Kinds.RING, Kinds.BED) || isNoAnchor(a)) {
            return NO;
        }
        return Kinds.markAs(kinds, kind, a, Kinds.LEVELS);
    }

    public int keep(int image) {
        if (isOutside(image, 0, 1)) {
            return BAD;
        }
        imageOf(image).keeps(now, past);
        return thoseThatAre(told, now, LIES);
    }

    public int back(int image) {
        if (isOutside(image, 0, 1)) {
            return BAD;
        }
        if (!imageOf(image).isKept) {
            return STATE;
        }
        imageOf(image).givesBack(now, past);
        return thoseThatAre(told, now, LIES);
    }

    public int count(int what) {
        switch (what) {
            case 0: return told.rafts;
            case 1: return told.anchors;
            case 2: return told.ropes;
            case 3: return heard.known;
            case 4: return past.known;
            case 5: return reader.length;
            default: return BAD;
        }
    }

    public long trace() {
        return kinds.traced;
    }

    private Image imageOf(int image) {
        return image == 0 ? firstImage : secondImage;
    }

    private boolean isNoRaft(int r) {
        return isOutside(r, 0, told.rafts - 1);
    }

    private boolean isNoAnchor(int a) {
        return isOutside(a, 0, told.anchors - 1);
    }

    private static boolean isNoForce(int f) {
        return isOutside(f, 1, MOST);
    }

    private static boolean isOutside(int n, int low, int high) {
        return n < low || n > high;
    }

    // Rows are read and written through at, put, fill and copy alone, so that no index is ever used unseen.

    private static int at(int[] row, int i) {
        return row != null && i >= 0 && i < row.length ? row[i] : 0;
    }

    private static void put(int[] row, int i, int value) {
        if (row != null && i >= 0 && i < row.length) {
            row[i] = value;
        }
    }

    private static void fill(int[] row, int value) {
        if (row != null) {
            for (int i = 0; i < row.length; i++) {
                row[i] = value;
            }
        }
    }

    private static void copy(int[] from, int fromAt, int[] to, int toAt, int n) {
        if (from == null || to == null || n < 0 || fromAt < 0 || toAt < 0) {
            return;
        }
        if (fromAt <= from.length - n && toAt <= to.length - n) {
            System.arraycopy(from, fromAt, to, toAt, n);
        }
    }

    private static int bit(int i) {
        return i >= 0 && i < 31 ? 1 << i : 0;
    }

    private static boolean has(int bits, int i) {
        return (bits & bit(i)) != 0;
    }

    private static int divided(int n, int by) {
        return by > 0 ? n / by : 0;
    }

    private static int commonPart(int a, int b) {
        int more = Math.max(a, b);
        int less = Math.min(a, b);
        for (int i = 0; i < MOST && less > 0; i++) {
            int rest = more % less;
            more = less;
            less = rest;
        }
        return more;
    }

    private static int power(int base, int times) {
        int product = 1;
        for (int i = 0; i < times; i++) {
            product *= base;
        }
        return product;
    }

    private static int thoseThatAre(Told told, Now now, int how) {
        int those = 0;
        for (int a = 0; a < told.anchors; a++) {
            if (now.get(Now.HOW, a) == how) {
                those |= bit(a);
            }
        }
        return those;
    }

    private static int lyingIn(Told told, Now now, int x) {
        int those = 0;
        for (int a = 0; a < told.anchors; a++) {
            if (now.lies(a) && now.get(Now.CELL, a) == x) {
                those |= bit(a);
            }
        }
        return those;
    }

    /** What the text tells and no call changes, and how all that changes is at first. */
    private static final class Told {
        private final int[] deep = new int[CELLS];
        private final int[] grip = new int[CELLS];
        private final int[] owner = new int[ANCHORS];
        private final int[] weight = new int[ANCHORS];
        private final int[] worth = new int[ANCHORS];
        /** Of each raft, those at the other ends of its own ropes, as bits. */
        private final int[] roped = new int[RAFTS];
        private final Now first = new Now();
        private int rafts;
        private int anchors;
        private int ropes;

        private Told() {
            empties();
        }

        private void empties() {
            fill(deep, 3);
            fill(grip, 1);
            fill(roped, 0);
            first.empties();
            rafts = 0;
            anchors = 0;
            ropes = 0;
        }

        private void becomes(Told other) {
            copy(other.deep, 0, deep, 0, CELLS);
            copy(other.grip, 0, grip, 0, CELLS);
            copy(other.owner, 0, owner, 0, ANCHORS);
            copy(other.weight, 0, weight, 0, ANCHORS);
            copy(other.worth, 0, worth, 0, ANCHORS);
            copy(other.roped, 0, roped, 0, RAFTS);
            first.becomes(other.first);
            rafts = other.rafts;
            anchors = other.anchors;
            ropes = other.ropes;
        }

        private void addRaft(int next) {
            first.set(Now.NEXT, rafts, next);
            rafts++;
        }

        private void addAnchor(int of, int x, int heavy, int links, int dear) {
            put(owner, anchors, of);
            put(weight, anchors, heavy);
            put(worth, anchors, dear);
            first.set(Now.CELL, anchors, x);
            first.set(Now.LINKS, anchors, links);
            anchors++;
        }

        private void addRope(int a, int b) {
            if (has(at(roped, a), b)) {
                return;
            }
            put(roped, a, at(roped, a) | bit(b));
            put(roped, b, at(roped, b) | bit(a));
            ropes++;
        }

        private int strengthIn(int x, int a, int links) {
            return at(weight, a) * (at(grip, x) + 1) + divided(links, at(deep, x));
        }

        private int strengthOf(Now now, int a) {
            return strengthIn(now.get(Now.CELL, a), a, now.get(Now.LINKS, a));
        }
    }

    /** All that calls change and that may be undone, in one row, so that it is copied at once. */
    private static final class Now {
        private static final int CELL = 0, LINKS = 8, AGE = 16, HOW = 24, NEXT = 32, WEALTH = 38, GONE = 44, SIZE = 45;

        private final int[] row = new int[SIZE];

        private void empties() {
            fill(row, 0);
        }

        private void becomes(Now other) {
            copy(other.row, 0, row, 0, SIZE);
        }

        private int get(int what, int i) {
            return at(row, what + i);
        }

        private void set(int what, int i, int value) {
            put(row, what + i, value);
        }

        private boolean lies(int a) {
            return get(HOW, a) == LIES;
        }

        private int goneRafts() {
            return get(GONE, 0);
        }

        private boolean isGone(int r) {
            return has(goneRafts(), r);
        }
    }

    /** What may be undone: how all was ahead of the latest deeds, the oldest first. */
    private static final class Past {
        private static final int DEEDS = 10;

        private final int[] rows = new int[DEEDS * Now.SIZE];
        private int known;

        private void remembers(Now now) {
            if (known >= DEEDS) {
                known = DEEDS - 1;
                copy(rows, Now.SIZE, rows, 0, known * Now.SIZE);
            }
            copy(now.row, 0, rows, known * Now.SIZE, Now.SIZE);
            known++;
        }

        private boolean bringsBack(Now now) {
            if (known < 1) {
                return false;
            }
            known--;
            copy(rows, known * Now.SIZE, now.row, 0, Now.SIZE);
            return true;
        }

        private void becomes(Past other) {
            copy(other.rows, 0, rows, 0, DEEDS * Now.SIZE);
            known = other.known;
        }
    }

    private static final class Image {
        private final Now now = new Now();
        private final Past past = new Past();
        private boolean isKept;

        private void keeps(Now from, Past pastOfIt) {
            now.becomes(from);
            past.becomes(pastOfIt);
            isKept = true;
        }

        private void givesBack(Now to, Past pastOfIt) {
            to.becomes(now);
            pastOfIt.becomes(past);
        }
    }

    /** The text, and its reading token by token. */
    private static final class Reader {
        private static final int BYTES = 200, BLANK = 32;
        private static final int END = 0, LETTERS = 1, NUMBER = 2, STOP = 3, NOTHING = 4;
        private static final int SOUND = -1, ALL = -1;

        private final int[] bytes = new int[BYTES];
        private int length;
        /** The first byte that no token has taken yet. */
        private int place;
        private int token;
        private int start;
        /** Of a number what it tells; of letters the only one, or 0. */
        private int value;
        private int fault;

        private boolean takes(int c) {
            if (length >= BYTES) {
                return false;
            }
            put(bytes, length, c);
            length++;
            return true;
        }

        private int readInto(Told told) {
            told.empties();
            place = 0;
            fault = SOUND;
            int items = 0;
            for (int i = 0; i < BYTES; i++) {
                nextToken();
                if (token == END) {
                    return items;
                }
                int letter = token == LETTERS ? value : 0;
                switch (letter) {
                    case 'c': readCell(told); break;
                    case 'r': readRaft(told); break;
                    case 'a': readAnchor(told); break;
                    case 't': readRope(told); break;
                    default: fault = start;
                }
                if (fault != SOUND) {
                    return -10 - fault;
                }
                items++;
            }
            return items;
        }

        private void readCell(Told told) {
            int x = number(0, CELLS - 1, ALL);
            int deep = number(1, DEEPEST, ALL);
            int grip = number(0, GRIPPIEST, ALL);
            if (stops()) {
                put(told.deep, x, deep);
                put(told.grip, x, grip);
            }
        }

        private void readRaft(Told told) {
            if (told.rafts >= RAFTS) {
                fault = start;
            }
            int next = number(0, told.rafts, ALL);
            if (stops()) {
                told.addRaft(next);
            }
        }

        private void readAnchor(Told told) {
            if (told.anchors >= ANCHORS) {
                fault = start;
            }
            int owner = number(0, told.rafts - 1, ALL);
            int x = number(0, CELLS - 1, ALL);
            int weight = number(1, HEAVIEST, ALL);
            int links = number(1, LONGEST, ALL);
            int worth = number(0, DEAREST, ALL);
            if (stops()) {
                told.addAnchor(owner, x, weight, links, worth);
            }
        }

        private void readRope(Told told) {
            int a = number(0, told.rafts - 1, ALL);
            int b = number(0, told.rafts - 1, a);
            if (stops()) {
                told.addRope(a, b);
            }
        }

        /** Behind a fault nothing is read, so that the first fault stays. */
        private int number(int low, int high, int but) {
            if (fault != SOUND) {
                return 0;
            }
            nextToken();
            if (token != NUMBER || isOutside(value, low, high) || value == but) {
                fault = start;
                return 0;
            }
            return value;
        }

        private boolean stops() {
            if (fault != SOUND) {
                return false;
            }
            nextToken();
            if (token != STOP) {
                fault = start;
            }
            return fault == SOUND;
        }

        private void nextToken() {
            place = endOfRun(BLANK, BLANK);
            start = place;
            value = at(bytes, start);
            if (start >= length) {
                token = END;
            } else if (!isOutside(value, 'a', 'z')) {
                place = endOfRun('a', 'z');
                token = LETTERS;
                value = place - start == 1 ? value : 0;
            } else if (!isOutside(value, '0', '9')) {
                place = endOfRun('0', '9');
                value = valueOfDigits();
                token = value < 0 ? NOTHING : NUMBER;
            } else {
                place++;
                token = value == ';' ? STOP : NOTHING;
            }
        }

        /** The first place, from the present one on, of a byte that is not from low to high. */
        private int endOfRun(int low, int high) {
            int end = place;
            for (int i = 0; i < BYTES && end < length && !isOutside(at(bytes, end), low, high); i++) {
                end++;
            }
            return end;
        }

        /** Numbers up to 99 with no 0 ahead have two digits at most; others are no numbers: -1. */
        private int valueOfDigits() {
            int first = at(bytes, start) - '0';
            if (place - start == 1) {
                return first;
            }
            return place - start == 2 && first > 0 ? first * 10 + at(bytes, start + 1) - '0' : -1;
        }
    }

    /** What holds, and what storms do. */
    private static final class Sea {
        private final Told told;
        private final Now now;
        /** Storms that only could be are blown over this one. */
        private final Now trial = new Now();
        private final int[] holds = new int[CELLS];

        private Sea(Told told, Now now) {
            this.told = told;
            this.now = now;
        }

        private int holdOf(int a) {
            weighHolds(now);
            return at(holds, now.get(Now.CELL, a));
        }

        private void weighHolds(Now over) {
            fill(holds, 0);
            for (int a = 0; a < told.anchors; a++) {
                if (over.lies(a)) {
                    int x = over.get(Now.CELL, a);
                    put(holds, x, at(holds, x) + told.strengthOf(over, a));
                }
            }
        }

        /** All holds are weighed ahead of the moves, since the anchors go at once. */
        private int blowsOver(Now over, int f, int side) {
            weighHolds(over);
            int lost = 0;
            for (int a = 0; a < told.anchors; a++) {
                int x = over.get(Now.CELL, a);
                if (over.lies(a) && at(holds, x) < f) {
                    int to = side == 0 ? x - 1 : x + 1;
                    if (isOutside(to, 0, CELLS - 1)) {
                        over.set(Now.HOW, a, LOST);
                        lost++;
                    } else {
                        over.set(Now.CELL, a, to);
                    }
                }
            }
            return lost;
        }

        private int cellBehind(int a, int f, int side) {
            trial.becomes(now);
            blowsOver(trial, f, side);
            return trial.lies(a) ? trial.get(Now.CELL, a) : NONE;
        }

        /** Its sides in the lower bits, above them how many are lost: the search finds both. */
        private int worstRow(int f, int n) {
            int worst = 0;
            int most = -1;
            for (int rank = 0; rank < bit(n); rank++) {
                int sides = sidesAt(rank, n);
                int lost = 0;
                trial.becomes(now);
                for (int k = 0; k < n; k++) {
                    lost += blowsOver(trial, f, has(sides, k) ? 1 : 0);
                }
                if (lost > most) {
                    most = lost;
                    worst = sides;
                }
            }
            return most << ROW_OF_STORMS | worst;
        }

        /** In the order of rows the first storm's side weighs most, in the answer's bits least. */
        private static int sidesAt(int rank, int n) {
            int sides = 0;
            for (int k = 0; k < n; k++) {
                if (has(rank, n - 1 - k)) {
                    sides |= bit(k);
                }
            }
            return sides;
        }

        private int fewestLinks(int a, int f) {
            int x = now.get(Now.CELL, a);
            for (int links = 1; links <= LONGEST; links++) {
                if (told.strengthIn(x, a, links) >= f) {
                    return links;
                }
            }
            return NONE;
        }
    }

    /** Where anchors should lie so that each holds alone. */
    private static final class Berths {
        private static final int IN_A_WORD = 16;

        private final Told told;
        private final Now now;
        private final int[] berths = new int[ANCHORS];
        /** A bit for each set of taken cells from which the rest can't be laid, so that none is tried twice. */
        private final int[] hopeless = new int[(1 << CELLS) / IN_A_WORD];

        private Berths(Told told, Now now) {
            this.told = told;
            this.now = now;
        }

        private int berthOf(int set, int f, int a) {
            fill(hopeless, 0);
            return lays(this, set, f, 0, cellsOfOthers(set)) ? at(berths, a) : NONE;
        }

        private int cellsOfOthers(int set) {
            int taken = 0;
            for (int x = 0; x < CELLS; x++) {
                if ((lyingIn(told, now, x) & ~set) != 0) {
                    taken |= bit(x);
                }
            }
            return taken;
        }

        /** The anchors below a lie already; a carries the depth, too. */
        private static boolean lays(Berths in, int set, int f, int a, int taken) {
            if (a >= in.told.anchors) {
                return true;
            }
            if (!has(set, a)) {
                return lays(in, set, f, a + 1, taken);
            }
            if (in.isHopeless(taken)) {
                return false;
            }
            for (int x = 0; x < CELLS; x++) {
                if (!has(taken, x) && in.wouldHold(x, a, f)) {
                    put(in.berths, a, x);
                    if (lays(in, set, f, a + 1, taken | bit(x))) {
                        return true;
                    }
                }
            }
            in.callsHopeless(taken);
            return false;
        }

        private boolean wouldHold(int x, int a, int f) {
            return told.strengthIn(x, a, now.get(Now.LINKS, a)) >= f;
        }

        private boolean isHopeless(int taken) {
            return has(at(hopeless, taken / IN_A_WORD), taken % IN_A_WORD);
        }

        private void callsHopeless(int taken) {
            int word = taken / IN_A_WORD;
            put(hopeless, word, at(hopeless, word) | bit(taken % IN_A_WORD));
        }
    }

    /** Whose the anchors are, and what they are to rafts and towns. */
    private static final class Heirs {
        private final Told told;
        private final Now now;

        private Heirs(Told told, Now now) {
            this.told = told;
            this.now = now;
        }

        /** More steps than there are rafts only go round among those that are gone. */
        private int whoseIs(int a) {
            int r = at(told.owner, a);
            for (int i = 0; i < RAFTS; i++) {
                if (!now.isGone(r)) {
                    return r;
                }
                r = now.get(Now.NEXT, r);
            }
            return NONE;
        }

        private int valueOf(int a) {
            return Math.max(at(told.worth, a) - now.get(Now.AGE, a), 0);
        }

        private boolean mayHaul(int r, int a) {
            if (!now.lies(a) || whoseIs(a) != r) {
                return false;
            }
            int there = lyingIn(told, now, now.get(Now.CELL, a));
            for (int b = 0; b < told.anchors; b++) {
                int whose = whoseIs(b);
                if (has(there, b) && whose != r && whose != NONE) {
                    return false;
                }
            }
            return true;
        }

        private int estateOf(int r) {
            int estate = 0;
            for (int a = 0; a < told.anchors; a++) {
                if (now.lies(a) && whoseIs(a) == r) {
                    estate += valueOf(a);
                }
            }
            return estate;
        }

        private int wealthOfAll() {
            int wealth = 0;
            for (int r = 0; r < told.rafts; r++) {
                wealth += now.get(Now.WEALTH, r);
            }
            return wealth;
        }

        /** Each round goes a rope further, and no way is longer than there are rafts. */
        private int townOf(int r) {
            int town = bit(r);
            for (int round = 0; round < RAFTS; round++) {
                for (int other = 0; other < told.rafts; other++) {
                    if (has(town, other)) {
                        town |= at(told.roped, other);
                    }
                }
            }
            return town;
        }

        private boolean adds(int town, int a) {
            return now.lies(a) && has(town, at(told.owner, a));
        }

        private int mightOf(int town) {
            int might = 0;
            for (int a = 0; a < told.anchors; a++) {
                if (adds(town, a)) {
                    might += told.strengthOf(now, a);
                }
            }
            return might;
        }

        private int vitalFor(int r, int f) {
            int town = townOf(r);
            int might = mightOf(town);
            int those = 0;
            for (int a = 0; a < told.anchors; a++) {
                if (adds(town, a) && might >= f && might - told.strengthOf(now, a) < f) {
                    those |= bit(a);
                }
            }
            return those;
        }
    }

    /** What was heard of an unknown anchor. */
    private static final class Heard {
        private static final int SAYINGS = 6;

        private final Told told;
        private final Now now;
        private final int[] forces = new int[SAYINGS];
        private final int[] held = new int[SAYINGS];
        /** Weighed once for each answer, as they are asked for by many a force. */
        private final int[] strengths = new int[ANCHORS];
        private int known;

        private Heard(Told told, Now now) {
            this.told = told;
            this.now = now;
        }

        private boolean takes(int f, int holds) {
            if (known >= SAYINGS) {
                return false;
            }
            put(forces, known, f);
            put(held, known, holds);
            known++;
            return true;
        }

        private int fitting() {
            weighStrengths();
            int those = thoseThatAre(told, now, LIES);
            for (int i = 0; i < known; i++) {
                int holders = thatHold(at(forces, i));
                those &= at(held, i) == 1 ? holders : ~holders;
            }
            return those;
        }

        private void weighStrengths() {
            for (int a = 0; a < told.anchors; a++) {
                put(strengths, a, told.strengthOf(now, a));
            }
        }

        private int thatHold(int f) {
            int those = 0;
            for (int a = 0; a < told.anchors; a++) {
                if (at(strengths, a) >= f) {
                    those |= bit(a);
                }
            }
            return those;
        }

        /** A force that parts nobody leaves all of them as its greater part, and so is never less. */
        private int bestQuestion() {
            int those = fitting();
            int all = Integer.bitCount(those);
            int least = all;
            int best = NONE;
            for (int f = 1; f <= MOST; f++) {
                int holders = Integer.bitCount(those & thatHold(f));
                int greater = Math.max(holders, all - holders);
                if (greater < least) {
                    least = greater;
                    best = f;
                }
            }
            return best;
        }
    }

    /** Anchors as if of kinds, and the trace that their bodies leave. */
    private static final class Kinds {
        private static final int RING = 0, KEDGE = 1, STONE = 2, GRAPNEL = 3, BELL = 4, BED = 5;
        private static final int LEVELS = 3;
        private static final int[] ABOVE = {RING, RING, RING, KEDGE, STONE, RING};
        private static final int[] LEAVES = {1, 10, 100, 1000, 10000, 100000};

        private final Told told;
        private final Now now;
        private long traced;

        private Kinds(Told told, Now now) {
            this.told = told;
            this.now = now;
        }

        private static int markAs(Kinds in, int kind, int a, int levels) {
            if (levels < 1) {
                return 0;
            }
            in.traced += at(LEAVES, kind);
            if (kind == RING) {
                return in.told.strengthOf(in.now, a);
            }
            int up = markAs(in, at(ABOVE, kind), a, levels - 1);
            switch (kind) {
                case KEDGE: return up + at(in.told.worth, a);
                case STONE: return up - in.now.get(Now.AGE, a);
                case GRAPNEL: return up * 2;
                case BELL: return up + a;
                case BED: return up + in.now.get(Now.WEALTH, at(in.told.owner, a));
                default: return up;
            }
        }
    }
}
