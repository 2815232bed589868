import java.util.Arrays;

/**
 * Promises as links of chains; ../shared/DOC.md says what every call answers.
 * The words in capitals in comments are the document's. All rows are made with the object: no call makes any.
 */
public final class ChainsHold {
    public static final int BAD = -1, NOT = -2, FULL = -3, STATE = -5, VOID = -2000000000;

    private static final int NOTHING_THERE = -11, OTHER_KIND = -12, NO_PLACE = -13, SIZE_BELOW_0 = -14;
    private static final int MOST_PEOPLE = 6, MOST_PROMISES = 10, DAYS = 100;
    private static final int NEVER = -1, NOBODY = -1;
    private static final int FIRST_SLACK = 2, MOST_TURNS = 6, MOST_LIVES = 30;
    private static final int NO_PROMISE_KEPT = 10, NO_KEPT_FITS = -9, FAULT_BASE = -100;

    private final Smith smith;
    private final Law law;
    private final Days days;
    private final Keeping keeping;
    private final Work work;
    private final Creaks creaks;
    private final Deeds deeds;
    private final Changes changes;
    private final Links links;
    private final Shelves shelves;

    public ChainsHold() {
        smith = new Smith();
        law = new Law();
        shelves = new Shelves();
        links = new Links();
        changes = new Changes();
        days = new Days(smith);
        keeping = new Keeping(smith);
        work = new Work(smith);
        creaks = new Creaks(smith, law, shelves);
        deeds = new Deeds(smith);
    }

    // ---- people, promises

    public int person(int base, int round) {
        if (!within(base, 0, 30) || !within(round, 1, 60)) {
            return BAD;
        }
        return smith.people == MOST_PEOPLE ? FULL : smith.addOne(base, round);
    }

    public int promise(int wl, int md) {
        if (!smith.canPromise(wl / 10, md / 100, md % 100, wl % 10)) {
            return BAD;
        }
        return smith.isFull() ? FULL : smith.addPromise(wl / 10, md / 100, md % 100, wl % 10);
    }

    public int promises(int shelf, int i, int n) {
        if (!shelves.isShelf(shelf) || !within(n, 1, MOST_PROMISES)) {
            return BAD;
        }
        int refusal = shelves.refusalOfRow(shelf, Shelves.BYTES);
        if (refusal == NOTHING_THERE) {
            return 0;
        }
        return refusal != 0 ? refusal : promisesFromRow(shelf, i, n);
    }

    private int promisesFromRow(int shelf, int i, int n) {
        int came = 0;
        while (came < n && !smith.isFull() && shelves.hasPlaces(shelf, i, 4 * came + 4)) {
            int at = i + 4 * came;
            int whose = (int) shelves.elementAt(shelf, at);
            int made = (int) shelves.elementAt(shelf, at + 1);
            int due = (int) shelves.elementAt(shelf, at + 2);
            int size = (int) shelves.elementAt(shelf, at + 3);
            if (!smith.canPromise(whose, made, due, size)) {
                break;
            }
            smith.addPromise(whose, made, due, size);
            came++;
        }
        return came;
    }

    public int mend(int number, int what, int v) {
        if (!smith.has(number, what) || !smith.canBecome(number, what, v)) {
            return VOID;
        }
        int was = smith.numberOf(number, what);
        if (was != v) {
            changes.add(number, what, was, v);
            smith.become(number, what, v);
        }
        return was;
    }

    public int of(int number, int what) {
        return smith.has(number, what) ? smith.numberOf(number, what) : VOID;
    }

    public int feed(int letter) {
        if (!within(letter, 0, 255)) {
            return BAD;
        }
        return law.fed == Law.MOST_BYTES ? FULL : law.take(letter);
    }

    public int law() {
        int fault = law.read();
        return fault == Law.NO_FAULT ? 1 : FAULT_BASE - fault;
    }

    // ---- days in thought

    public int chain(int one, int day, int what) {
        if (!smith.isOne(one) || !isDay(day)) {
            return BAD;
        }
        switch (what) {
            case 0: return smith.lengthOn(one, day);
            case 1: return smith.ridesOn(one, day) ? 1 : 0;
            case 2: return creaks.ofOne(one, day);
            case 3: return creaks.debtOf(one, day);
            default: return BAD;
        }
    }

    public int creak(int promise, int day) {
        return smith.isPromise(promise) && isDay(day) ? creaks.ofPromise(promise, day) : BAD;
    }

    public int rides(int one, int a, int b) {
        if (!smith.isOne(one) || !isDay(a)) {
            return BAD;
        }
        if (b == -1) {
            return days.firstRideFrom(one, a);
        }
        return isDay(b) && b >= a ? days.ridesWithin(one, a, b) : BAD;
    }

    public int ride(int one, int what) {
        if (!smith.isOne(one) || !isEither(what)) {
            return BAD;
        }
        int first = days.longestRideStart(one);
        if (what == 1) {
            return first;
        }
        return first == NOT ? 0 : days.rideFrom(one, first);
    }

    public int who(int day) {
        return isDay(day) ? smith.ridersOn(day) : BAD;
    }

    public int best(int what) {
        if (!isEither(what)) {
            return BAD;
        }
        int day = days.fullestDay();
        return what == 0 ? day : Integer.bitCount(smith.ridersOn(day));
    }

    public int keepBy(int one, int day, int what) {
        if (!smith.isOne(one) || !isDay(day) || !isEither(what)) {
            return BAD;
        }
        int set = keeping.fewestSet(one, day);
        return set == NOT || what == 1 ? set : Integer.bitCount(set);
    }

    public int lightest(int one, int day, int what) {
        if (!smith.isOne(one) || !isDay(day) || !isEither(what)) {
            return BAD;
        }
        int set = keeping.lightestSet(one, day);
        return set == NOT || what == 0 ? set : smith.linksOf(set);
    }

    public int ways(int one, int day) {
        return smith.isOne(one) && isDay(day) ? keeping.howManySets(one, day) : BAD;
    }

    public int can(int one, int set) {
        if (!smith.isOne(one) || (set & ~smith.promisesOf(one)) != 0) {
            return BAD;
        }
        return work.canAll(set) ? 1 : 0;
    }

    public int most(int one, int what) {
        if (!smith.isOne(one) || !isEither(what)) {
            return BAD;
        }
        int set = work.greatestSet(smith.promisesOf(one));
        return what == 1 ? set : Integer.bitCount(set);
    }

    public int clashes(int one, int what) {
        if (!smith.isOne(one) || !isEither(what)) {
            return BAD;
        }
        int his = smith.promisesOf(one);
        return what == 0 ? work.howManyClashes(his) : work.leastClash(his);
    }

    // ---- handing on, books

    public int hand(int pt, int day) {
        int promise = pt / 100;
        int to = pt % 100;
        if (!smith.isPromise(promise) || !smith.isOne(to) || to == smith.whose[promise] || !isDay(day)) {
            return BAD;
        }
        return smith.isTied(promise) ? STATE : days.ridersIfHanded(promise, to, day);
    }

    public int handBest(int day, int what) {
        if (!isDay(day) || !isEither(what)) {
            return BAD;
        }
        int handing = days.bestHanding(day);
        return handing == NOT || what == 0 ? handing : days.ridersIfHanded(handing / 100, handing % 100, day);
    }

    public int judge(int shelf, int one) {
        if (!shelves.isShelf(shelf) || !smith.isOne(one)) {
            return BAD;
        }
        int refusal = shelves.refusalOfRow(shelf, Shelves.SHORTS);
        return refusal != 0 ? refusal : creaks.firstWrongDay(shelf, one);
    }

    public int keptOn(int shelf, int promise, int one, int what) {
        if (!shelves.isShelf(shelf) || !smith.isPromise(promise) || !smith.isOne(one) || !isEither(what)
                || shelves.refusalOfRow(shelf, Shelves.SHORTS) != 0) {
            return VOID;
        }
        creaks.compareOpenAndKept(shelf, promise, one);
        return what == 0 ? creaks.howManyKepts(shelf) : creaks.leastKept(shelf);
    }

    public int whose(int shelf) {
        if (!shelves.isShelf(shelf)) {
            return BAD;
        }
        int refusal = shelves.refusalOfRow(shelf, Shelves.SHORTS);
        return refusal != 0 ? refusal : creaks.ownersOf(shelf);
    }

    public int byTurns(int one, int dn, int what) {
        int day = dn / 10;
        int turns = dn % 10;
        if (!smith.isOne(one) || !isDay(day) || !within(turns, 1, MOST_TURNS) || !isEither(what)) {
            return BAD;
        }
        if (what == 1) {
            return keeping.bestFirstTurn(one, day, turns);
        }
        return keeping.winsByTurns(one, day, turns) ? 1 : 0;
    }

    public int loudest(int what) {
        if (!isEither(what)) {
            return BAD;
        }
        int day = creaks.loudestDay();
        return what == 0 ? day : creaks.ofAll(day);
    }

    public int drawn(int seed, int n, int one, int day) {
        if (!within(n, 1, MOST_LIVES) || !smith.isOne(one) || !within(day, -1, DAYS - 1)) {
            return BAD;
        }
        return days.drawnRides(seed, n, one, day);
    }

    // ---- in deed

    public int passes() {
        return deeds.now() == DAYS - 1 ? STATE : deeds.endDay();
    }

    public int vow(int wl, int due) {
        int now = deeds.now();
        if (!smith.canPromise(wl / 10, now, due, wl % 10)) {
            return BAD;
        }
        return smith.isFull() ? FULL : deeds.makePromise(wl / 10, due, wl % 10);
    }

    public int kept(int promise) {
        if (!smith.isPromise(promise)) {
            return BAD;
        }
        return smith.isOpen(promise, deeds.now()) ? deeds.keepPromise(promise) : STATE;
    }

    public int led(int what) {
        return within(what, 0, Deeds.NOW) ? deeds.led[what] : BAD;
    }

    public int image() {
        return deeds.keepImage();
    }

    public int back() {
        return deeds.hasImage ? deeds.layBack() : STATE;
    }

    public int undo() {
        if (changes.standing == 0) {
            return STATE;
        }
        changes.stepBack(smith);
        return changes.standing;
    }

    public int redo() {
        if (changes.standing == changes.all) {
            return STATE;
        }
        changes.stepForward(smith);
        return changes.all - changes.standing;
    }

    // ---- acts, shelves

    public int body(int kind) {
        if (!within(kind, 0, Links.KINDS - 1)) {
            return BAD;
        }
        return links.size == Links.MOST_BODIES ? FULL : links.add(kind);
    }

    public int act(int body, int act, int x) {
        return links.perform(body, act, x);
    }

    public int trace(int i) {
        return i >= 0 && i < Math.min(links.ran, Links.MOST_TRACED) ? links.traced[i] : BAD;
    }

    public int keep(int shelf, int body) {
        if (!shelves.isShelf(shelf) || body != -1 && !links.isBody(body)) {
            return BAD;
        }
        return body == -1 ? shelves.clear(shelf) : shelves.holdLink(shelf, body);
    }

    public int row(int shelf, int sort, int n) {
        if (!shelves.isShelf(shelf) || !within(sort, Shelves.BYTES, Shelves.BOOLEANS) || n > Shelves.MOST_ELEMENTS) {
            return BAD;
        }
        return n < 0 ? SIZE_BELOW_0 : shelves.holdRow(shelf, sort, n);
    }

    public int put(int shelf, int i, long v) {
        if (!shelves.isShelf(shelf)) {
            return BAD;
        }
        int refusal = shelves.refusalOfPlace(shelf, i);
        return refusal != 0 ? refusal : shelves.putAt(shelf, i, v);
    }

    public long element(int shelf, int i) {
        if (!shelves.isShelf(shelf) || shelves.refusalOfPlace(shelf, i) != 0) {
            return Long.MIN_VALUE;
        }
        return shelves.elementAt(shelf, i);
    }

    public int shift(int shelf, int i, int other, int j, int n) {
        if (!shelves.isShelf(shelf) || !shelves.isShelf(other)) {
            return BAD;
        }
        int refusal = shelves.refusalOfPair(shelf, other);
        if (refusal != 0) {
            return refusal;
        }
        if (!shelves.hasPlaces(shelf, i, n) || !shelves.hasPlaces(other, j, n)) {
            return NO_PLACE;
        }
        return shelves.move(shelf, i, other, j, n);
    }

    public int taken(int shelf, int k) {
        if (!shelves.isShelf(shelf) || !within(k, 0, Links.KINDS - 1)) {
            return BAD;
        }
        int refusal = shelves.refusalOfLink(shelf);
        if (refusal != 0) {
            return refusal;
        }
        int kind = links.kindOf(shelves.bodies[shelf]);
        return Links.isUnder(kind, k) ? kind : OTHER_KIND;
    }

    public int count(int what) {
        switch (what) {
            case 0: return smith.people;
            case 1: return smith.promises;
            case 2: return law.fed;
            case 3: return changes.standing;
            case 4: return links.size;
            case 5: return links.ran;
            default: return BAD;
        }
    }

    // ---- what several of the classes below ask

    private static boolean within(int v, int least, int greatest) {
        return v >= least && v <= greatest;
    }

    private static boolean isDay(int day) {
        return within(day, 0, DAYS - 1);
    }

    private static boolean isEither(int what) {
        return what == 0 || what == 1;
    }

    private static boolean isIn(int set, int number) {
        return (set >> number & 1) != 0;
    }

    /** PEOPLE, PROMISES, and THE CHAIN that they make on a day. */
    private static final class Smith {
        static final int WITH = 6, NUMBERS = 9;

        final int[] base = new int[MOST_PEOPLE];
        final int[] round = new int[MOST_PEOPLE];
        final int[] slack = new int[MOST_PEOPLE];
        final int[] whose = new int[MOST_PROMISES];
        final int[] made = new int[MOST_PROMISES];
        final int[] due = new int[MOST_PROMISES];
        final int[] links = new int[MOST_PROMISES];
        final int[] kept = new int[MOST_PROMISES];
        final int[] with = new int[MOST_PROMISES];
        int people;
        int promises;

        Smith() {
        }

        boolean isOne(int number) {
            return number >= 0 && number < people;
        }

        boolean isPromise(int number) {
            return number >= 0 && number < promises;
        }

        boolean isFull() {
            return promises >= MOST_PROMISES;
        }

        boolean canPromise(int one, int day, int dueDay, int size) {
            return isOne(one) && isDay(day) && within(dueDay, day, DAYS - 1) && within(size, 1, 9);
        }

        int addOne(int baseLinks, int roundLinks) {
            base[people] = baseLinks;
            round[people] = roundLinks;
            slack[people] = FIRST_SLACK;
            return people++;
        }

        int addPromise(int one, int day, int dueDay, int size) {
            whose[promises] = one;
            made[promises] = day;
            due[promises] = dueDay;
            links[promises] = size;
            kept[promises] = NEVER;
            with[promises] = NOBODY;
            return promises++;
        }

        boolean has(int number, int what) {
            if (what < 0 || what >= NUMBERS) {
                return false;
            }
            return what <= 2 ? isOne(number) : isPromise(number);
        }

        boolean canBecome(int number, int what, int v) {
            switch (what) {
                case 0: return within(v, 0, 30);
                case 1: return within(v, 1, 60);
                case 2: return within(v, 0, 9);
                case 3: return within(v, made[number], DAYS - 1);
                case 4: return within(v, 1, 9);
                case 5: return within(v, NEVER, DAYS - 1);
                case WITH: return v == NOBODY || isOne(v) && v != whose[number];
                default: return false;
            }
        }

        int numberOf(int number, int what) {
            return rowOf(what)[number];
        }

        void become(int number, int what, int v) {
            rowOf(what)[number] = v;
        }

        private int[] rowOf(int what) {
            switch (what) {
                case 0: return base;
                case 1: return round;
                case 2: return slack;
                case 3: return due;
                case 4: return links;
                case 5: return kept;
                case WITH: return with;
                case 7: return whose;
                default: return made;
            }
        }

        boolean isTied(int promise) {
            return with[promise] != NOBODY;
        }

        boolean isOpen(int promise, int day) {
            return made[promise] <= day && (kept[promise] == NEVER || kept[promise] > day);
        }

        boolean isOverDue(int promise, int day) {
            return isOpen(promise, day) && day > due[promise];
        }

        /** His, or WITH him. */
        boolean concerns(int promise, int one) {
            return whose[promise] == one || with[promise] == one;
        }

        int lengthOn(int one, int day) {
            int length = base[one];
            for (int p = 0; p < promises; p++) {
                if (concerns(p, one) && isOpen(p, day)) {
                    length += links[p];
                }
            }
            return length;
        }

        boolean goesRound(int one, int length) {
            return within(length, round[one], round[one] + slack[one]);
        }

        boolean ridesOn(int one, int day) {
            return goesRound(one, lengthOn(one, day));
        }

        int ridersOn(int day) {
            int riders = 0;
            for (int one = 0; one < people; one++) {
                if (ridesOn(one, day)) {
                    riders |= 1 << one;
                }
            }
            return riders;
        }

        int promisesOf(int one) {
            int set = 0;
            for (int p = 0; p < promises; p++) {
                if (whose[p] == one) {
                    set |= 1 << p;
                }
            }
            return set;
        }

        int openOnes(int day) {
            int set = 0;
            for (int p = 0; p < promises; p++) {
                if (isOpen(p, day)) {
                    set |= 1 << p;
                }
            }
            return set;
        }

        int linksOf(int set) {
            int sum = 0;
            for (int p = 0; p < promises; p++) {
                if (isIn(set, p)) {
                    sum += links[p];
                }
            }
            return sum;
        }
    }

    /** THE TAPE and THE LAW: a TEXT is read into signs in the order of working out, so that a day needs no reading. */
    private static final class Law {
        static final int MOST_BYTES = 120, MOST_OPEN = 6, MOST_DIGITS = 4, NO_FAULT = -1;
        private static final int END = -1, OPERAND_LEVEL = 5, COMPARING_LEVEL = 2;
        private static final int LINE_END = ';', CONDITION = '?', NEGATED = '~', NUMBER = 256;

        int fed;
        private final int[] tape = new int[MOST_BYTES];
        private final int[] signs = new int[MOST_BYTES + 1];
        private final int[] draft = new int[MOST_BYTES + 1];
        /** One place more than values can stand: each sign looks at two. */
        private final int[] stack = new int[MOST_BYTES + 2];
        private final int[] told = new int[6];
        private int length;
        private int drafted;
        private int place;
        private int fault;

        Law() {
        }

        int take(int letter) {
            tape[fed] = letter;
            return ++fed;
        }

        boolean hasText() {
            return length > 0;
        }

        /** A TEXT with a FAULT leaves the law that was. */
        int read() {
            place = 0;
            drafted = 0;
            fault = NO_FAULT;
            readLine();
            for (int lines = 1; lines <= MOST_BYTES && next() == LINE_END; lines++) {
                place++;
                readLine();
            }
            if (place < fed) {
                fail();
            }
            fed = 0;
            if (fault == NO_FAULT) {
                System.arraycopy(draft, 0, signs, 0, drafted);
                length = drafted;
            }
            return fault;
        }

        private void readLine() {
            readLevel(0, 0);
            if (next() == CONDITION) {
                place++;
                write(CONDITION);
                readLevel(0, 0);
            }
            write(LINE_END);
        }

        /** Levels 0 to 4 are E, A, B, S, P of the document; open counts the ( ! - that stand open. */
        private void readLevel(int level, int open) {
            readPart(level + 1, open);
            int mostSigns = level == COMPARING_LEVEL ? 1 : MOST_BYTES;
            for (int read = 0; read < mostSigns && levelOf(next()) == level; read++) {
                int sign = next();
                place++;
                readPart(level + 1, open);
                write(sign);
            }
        }

        private void readPart(int level, int open) {
            if (level >= OPERAND_LEVEL) {
                readOperand(open);
            } else {
                readLevel(level, open);
            }
        }

        private void readOperand(int open) {
            int sign = next();
            if (isDigit(sign)) {
                readNumber();
            } else if (nameOf(sign) >= 0) {
                place++;
                write(nameOf(sign));
            } else if ((sign == '(' || sign == '!' || sign == '-') && open < MOST_OPEN) {
                place++;
                readOpened(sign, open + 1);
            } else {
                fail();
            }
        }

        private void readOpened(int sign, int open) {
            if (sign == '(') {
                readLevel(0, open);
                if (next() == ')') {
                    place++;
                } else {
                    fail();
                }
            } else {
                readOperand(open);
                write(sign == '-' ? NEGATED : sign);
            }
        }

        private void readNumber() {
            int value = 0;
            for (int digits = 0; digits < MOST_DIGITS && isDigit(next()); digits++) {
                value = value * 10 + next() - '0';
                place++;
            }
            write(NUMBER + value);
        }

        private int next() {
            return fault == NO_FAULT && place < fed ? tape[place] : END;
        }

        /** Only the first FAULT counts. */
        private void fail() {
            if (fault == NO_FAULT) {
                fault = place;
            }
        }

        private void write(int sign) {
            if (drafted < draft.length) {
                draft[drafted] = sign;
                drafted++;
            }
        }

        private static boolean isDigit(int sign) {
            return sign >= '0' && sign <= '9';
        }

        private static int levelOf(int sign) {
            switch (sign) {
                case '|': return 0;
                case '&': return 1;
                case '<': case '=': case '>': return COMPARING_LEVEL;
                case '+': case '-': return 3;
                case '*': case '/': case '%': return 4;
                default: return -1;
            }
        }

        /** A NAME is written as its place among those told, a number with NUMBER added. */
        private static int nameOf(int sign) {
            switch (sign) {
                case 'o': return 0;
                case 'l': return 1;
                case 'c': return 2;
                case 'r': return 3;
                case 't': return 4;
                case 'p': return 5;
                default: return -1;
            }
        }

        /** The value of the first LINE that counts. */
        int valueFor(int o, int l, int c, int r, int t, int p) {
            tell(o, l, c, r, t, p);
            int top = 0;
            for (int at = 0; at < length; at++) {
                int sign = signs[at];
                if (sign == LINE_END) {
                    return stack[0];
                }
                if (sign == CONDITION) {
                    at = stack[0] == 0 ? lineEndFrom(at) : at;
                    top = 0;
                } else {
                    top = Math.max(0, top - operandsOf(sign));
                    stack[top] = result(sign, stack[top], stack[top + 1]);
                    top = Math.min(top + 1, MOST_BYTES);
                }
            }
            return 0;
        }

        private void tell(int o, int l, int c, int r, int t, int p) {
            told[0] = o;
            told[1] = l;
            told[2] = c;
            told[3] = r;
            told[4] = t;
            told[5] = p;
        }

        private int lineEndFrom(int at) {
            int end = at;
            while (end < length && signs[end] != LINE_END) {
                end++;
            }
            return end;
        }

        private static int operandsOf(int sign) {
            if (sign == '!' || sign == NEGATED) {
                return 1;
            }
            return levelOf(sign) >= 0 ? 2 : 0;
        }

        /** Numbers and NAMES take no operand, ! and NEGATED the first alone. */
        private int result(int sign, int a, int b) {
            if (sign >= NUMBER) {
                return sign - NUMBER;
            }
            if (sign >= 0 && sign < told.length) {
                return told[sign];
            }
            switch (sign) {
                case '!': return a == 0 ? 1 : 0;
                case NEGATED: return -a;
                case '|': return a != 0 || b != 0 ? 1 : 0;
                case '&': return a != 0 && b != 0 ? 1 : 0;
                case '<': return a < b ? 1 : 0;
                case '=': return a == b ? 1 : 0;
                case '>': return a > b ? 1 : 0;
                case '+': return a + b;
                case '-': return a - b;
                case '*': return a * b;
                case '/': return b == 0 ? 0 : a / b;
                case '%': return b == 0 ? 0 : a % b;
                default: return 0;
            }
        }
    }

    /** Who RIDES over many days, in lives that are drawn, and if a PROMISE is handed on. */
    private static final class Days {
        private final Smith smith;
        /** The day behind the last one takes what ends there. */
        private final int[] lengths = new int[DAYS + 1];
        private final int[] riders = new int[DAYS];
        private final int[] drawnKepts = new int[MOST_PROMISES];

        Days(Smith smith) {
            this.smith = smith;
        }

        /** Lays out THE CHAIN of one for all days: first what each day adds to the one before, then the sums. */
        private void layOut(int one, int[] kepts) {
            Arrays.fill(lengths, 0);
            lengths[0] = smith.base[one];
            for (int p = 0; p < smith.promises; p++) {
                int end = kepts[p] == NEVER ? DAYS : kepts[p];
                if (smith.concerns(p, one) && end > smith.made[p]) {
                    lengths[smith.made[p]] += smith.links[p];
                    lengths[end] -= smith.links[p];
                }
            }
            for (int day = 1; day < DAYS; day++) {
                lengths[day] += lengths[day - 1];
            }
        }

        private boolean ridesLaidOut(int one, int day) {
            return smith.goesRound(one, lengths[day]);
        }

        private int ridesLaidOutWithin(int one, int a, int b) {
            int rides = 0;
            for (int day = a; day <= b; day++) {
                if (ridesLaidOut(one, day)) {
                    rides++;
                }
            }
            return rides;
        }

        int ridesWithin(int one, int a, int b) {
            layOut(one, smith.kept);
            return ridesLaidOutWithin(one, a, b);
        }

        int firstRideFrom(int one, int a) {
            layOut(one, smith.kept);
            for (int day = a; day < DAYS; day++) {
                if (ridesLaidOut(one, day)) {
                    return day;
                }
            }
            return NOT;
        }

        int longestRideStart(int one) {
            layOut(one, smith.kept);
            int start = NOT;
            int longest = 0;
            int onEnd = 0;
            for (int day = 0; day < DAYS; day++) {
                onEnd = ridesLaidOut(one, day) ? onEnd + 1 : 0;
                if (onEnd > longest) {
                    longest = onEnd;
                    start = day - onEnd + 1;
                }
            }
            return start;
        }

        int rideFrom(int one, int first) {
            layOut(one, smith.kept);
            int day = first;
            while (day < DAYS && ridesLaidOut(one, day)) {
                day++;
            }
            return day - first;
        }

        int fullestDay() {
            Arrays.fill(riders, 0);
            for (int one = 0; one < smith.people; one++) {
                layOut(one, smith.kept);
                for (int day = 0; day < DAYS; day++) {
                    if (ridesLaidOut(one, day)) {
                        riders[day]++;
                    }
                }
            }
            int fullest = 0;
            for (int day = 1; day < DAYS; day++) {
                if (riders[day] > riders[fullest]) {
                    fullest = day;
                }
            }
            return fullest;
        }

        /** Day -1 asks for all days of all lives. */
        int drawnRides(int seed, int lives, int one, int day) {
            int z = seed;
            int rides = 0;
            for (int life = 0; life < lives; life++) {
                z = drawLife(z);
                layOut(one, drawnKepts);
                rides += day == -1 ? ridesLaidOutWithin(one, 0, DAYS - 1) : ridesLaidOutWithin(one, day, day);
            }
            return rides;
        }

        private int drawLife(int from) {
            int z = from;
            for (int p = 0; p < smith.promises; p++) {
                z = z * 1103515245 + 12345;
                int day = (z >>> 8) % DAYS;
                drawnKepts[p] = day >= smith.made[p] ? day : NEVER;
            }
            return z;
        }

        int ridersIfHanded(int promise, int to, int day) {
            int moved = smith.isOpen(promise, day) ? smith.links[promise] : 0;
            int count = 0;
            for (int one = 0; one < smith.people; one++) {
                int length = smith.lengthOn(one, day);
                if (one == to) {
                    length += moved;
                } else if (one == smith.whose[promise]) {
                    length -= moved;
                }
                if (smith.goesRound(one, length)) {
                    count++;
                }
            }
            return count;
        }

        int bestHanding(int day) {
            int most = Integer.bitCount(smith.ridersOn(day));
            int handing = NOT;
            for (int p = 0; p < smith.promises; p++) {
                for (int to = 0; to < smith.people; to++) {
                    if (smith.isTied(p) || to == smith.whose[p]) {
                        continue;
                    }
                    int count = ridersIfHanded(p, to, day);
                    if (count > most) {
                        most = count;
                        handing = 100 * p + to;
                    }
                }
            }
            return handing;
        }
    }

    /** KEEP, LIGHTEST, WAYS, BY TURNS: what one may keep on a day so as to RIDE. */
    private static final class Keeping {
        private final Smith smith;

        Keeping(Smith smith) {
            this.smith = smith;
        }

        private int mayKeep(int one, int day) {
            return smith.promisesOf(one) & smith.openOnes(day);
        }

        private boolean letsRide(int set, int open, int one, int length) {
            return (set & ~open) == 0 && smith.goesRound(one, length - smith.linksOf(set));
        }

        /** Sets come by their numbers: of like ones the least stays. */
        int fewestSet(int one, int day) {
            int open = mayKeep(one, day);
            int length = smith.lengthOn(one, day);
            int best = NOT;
            int fewest = MOST_PROMISES + 1;
            for (int set = 0; set <= open; set++) {
                if (letsRide(set, open, one, length) && Integer.bitCount(set) < fewest) {
                    best = set;
                    fewest = Integer.bitCount(set);
                }
            }
            return best;
        }

        int lightestSet(int one, int day) {
            int open = mayKeep(one, day);
            int length = smith.lengthOn(one, day);
            int best = NOT;
            int least = Integer.MAX_VALUE;
            for (int set = 0; set <= open; set++) {
                if (letsRide(set, open, one, length) && weightOf(set) < least) {
                    best = set;
                    least = weightOf(set);
                }
            }
            return best;
        }

        /** LINKS count first, the number of PROMISES only among like ones. */
        private int weightOf(int set) {
            return smith.linksOf(set) * (MOST_PROMISES + 1) + Integer.bitCount(set);
        }

        int howManySets(int one, int day) {
            int open = mayKeep(one, day);
            int length = smith.lengthOn(one, day);
            int sets = 0;
            for (int set = 0; set <= open; set++) {
                if (letsRide(set, open, one, length)) {
                    sets++;
                }
            }
            return sets;
        }

        boolean winsByTurns(int one, int day, int turns) {
            return endsRiding(smith, one, smith.lengthOn(one, day), mayKeep(one, day), 0, turns);
        }

        int bestFirstTurn(int one, int day, int turns) {
            int open = mayKeep(one, day);
            int length = smith.lengthOn(one, day);
            for (int p = 0; p < smith.promises; p++) {
                if (isIn(open, p) && endsRiding(smith, one, length - smith.links[p], open ^ 1 << p, 1, turns)) {
                    return p;
                }
            }
            if (open == 0 || endsRiding(smith, one, length, open, 1, turns)) {
                return NO_PROMISE_KEPT;
            }
            return Integer.numberOfTrailingZeros(open);
        }

        /** Whether he RIDES in the end, if both do their best from this turn on. */
        private static boolean endsRiding(Smith smith, int one, int length, int open, int turn, int turns) {
            if (turn >= turns) {
                return smith.goesRound(one, length);
            }
            int next = turn + 1;
            boolean ifNone = endsRiding(smith, one, length, open, next, turns);
            if (turn % 2 == 1) {
                return ifNone && endsRiding(smith, one, length + 1, open, next, turns);
            }
            boolean rides = ifNone;
            for (int p = 0; p < smith.promises && !rides; p++) {
                rides = isIn(open, p) && endsRiding(smith, one, length - smith.links[p], open ^ 1 << p, next, turns);
            }
            return rides;
        }
    }

    /** WORK: which sets of PROMISES can all be kept in time. */
    private static final class Work {
        private final Smith smith;
        private final boolean[] fits = new boolean[1 << MOST_PROMISES];

        Work(Smith smith) {
            this.smith = smith;
        }

        boolean canAll(int set) {
            fillFits(set);
            return isSet(set) && fits[set];
        }

        int greatestSet(int his) {
            fillFits(his);
            int best = 0;
            for (int set = 0; set <= his && isSet(set); set++) {
                if ((set & ~his) == 0 && fits[set] && Integer.bitCount(set) > Integer.bitCount(best)) {
                    best = set;
                }
            }
            return best;
        }

        int howManyClashes(int his) {
            fillFits(his);
            int clashes = 0;
            for (int set = 0; set <= his && isSet(set); set++) {
                if (isClash(set, his)) {
                    clashes++;
                }
            }
            return clashes;
        }

        int leastClash(int his) {
            fillFits(his);
            for (int set = 0; set <= his && isSet(set); set++) {
                if (isClash(set, his)) {
                    return set;
                }
            }
            return NOT;
        }

        private boolean isClash(int set, int his) {
            return (set & ~his) == 0 && !fits[set] && eachLessOneFits(set);
        }

        private boolean isSet(int set) {
            return set >= 0 && set < fits.length;
        }

        /**
         * Days are too few for a set just if they are for all of it between its first MADE and its last DUE, or for
         * a part of it between nearer days: then also for a set less one, and that stands in the table already.
         */
        private void fillFits(int all) {
            for (int set = 0; set <= all && isSet(set); set++) {
                if ((set & ~all) == 0) {
                    fits[set] = eachLessOneFits(set) && hasDaysForAll(set);
                }
            }
        }

        private boolean eachLessOneFits(int set) {
            for (int p = 0; p < smith.promises; p++) {
                if (isIn(set, p) && !fits[set ^ 1 << p]) {
                    return false;
                }
            }
            return true;
        }

        private boolean hasDaysForAll(int set) {
            int first = DAYS;
            int last = -1;
            int needed = 0;
            for (int p = 0; p < smith.promises; p++) {
                if (isIn(set, p)) {
                    first = Math.min(first, smith.made[p]);
                    last = Math.max(last, smith.due[p]);
                    needed += smith.links[p];
                }
            }
            return set == 0 || needed <= last - first + 1;
        }
    }

    /** How loud PROMISES CREAK, DEBT, and BOOKS of it. */
    private static final class Creaks {
        private static final int LOUDEST = 99;

        private final Smith smith;
        private final Law law;
        private final Shelves shelves;
        private final boolean[] soIfOpen = new boolean[Shelves.MOST_ELEMENTS];
        private final boolean[] soIfKept = new boolean[Shelves.MOST_ELEMENTS];

        Creaks(Smith smith, Law law, Shelves shelves) {
            this.smith = smith;
            this.law = law;
            this.shelves = shelves;
        }

        int ofPromise(int promise, int day) {
            if (!smith.isOverDue(promise, day)) {
                return 0;
            }
            int over = day - smith.due[promise];
            int loud = over + smith.links[promise];
            if (law.hasText()) {
                int one = smith.whose[promise];
                loud = law.valueFor(over, smith.links[promise], smith.lengthOn(one, day), smith.round[one],
                        smith.isTied(promise) ? 1 : 0, promise);
            }
            return Math.max(0, Math.min(LOUDEST, loud));
        }

        int ofOne(int one, int day) {
            int loud = 0;
            for (int p = 0; p < smith.promises; p++) {
                if (smith.concerns(p, one)) {
                    loud += ofPromise(p, day);
                }
            }
            return loud;
        }

        int ofAll(int day) {
            int loud = 0;
            for (int p = 0; p < smith.promises; p++) {
                loud += ofPromise(p, day);
            }
            return loud;
        }

        int loudestDay() {
            int loudest = 0;
            int most = 0;
            for (int day = 0; day < DAYS; day++) {
                int loud = ofAll(day);
                if (loud > most) {
                    most = loud;
                    loudest = day;
                }
            }
            return loudest;
        }

        int debtOf(int one, int day) {
            int debt = 0;
            for (int p = 0; p < smith.promises; p++) {
                if (smith.concerns(p, one) && smith.isOverDue(p, day)) {
                    debt += smith.links[p];
                }
            }
            return debt;
        }

        int firstWrongDay(int shelf, int one) {
            for (int day = 0; day < shelves.sizes[shelf]; day++) {
                if (!isDay(day) || shelves.elementAt(shelf, day) != ofOne(one, day)) {
                    return day;
                }
            }
            return NOT;
        }

        int ownersOf(int shelf) {
            int owners = 0;
            for (int one = 0; one < smith.people; one++) {
                if (firstWrongDay(shelf, one) == NOT) {
                    owners |= 1 << one;
                }
            }
            return owners;
        }

        /** A day sees of KEPT only whether it lies behind: two looks at each day stand for all KEPTS. */
        void compareOpenAndKept(int shelf, int promise, int one) {
            int was = smith.kept[promise];
            for (int day = 0; day < shelves.sizes[shelf]; day++) {
                smith.kept[promise] = NEVER;
                soIfOpen[day] = shelves.elementAt(shelf, day) == ofOne(one, day);
                smith.kept[promise] = day;
                soIfKept[day] = shelves.elementAt(shelf, day) == ofOne(one, day);
            }
            smith.kept[promise] = was;
        }

        private boolean isSoIfKeptOn(int kept, int shelf) {
            for (int day = 0; day < shelves.sizes[shelf]; day++) {
                boolean open = kept == NEVER || kept > day;
                if (open ? !soIfOpen[day] : !soIfKept[day]) {
                    return false;
                }
            }
            return true;
        }

        int howManyKepts(int shelf) {
            int kepts = 0;
            for (int kept = NEVER; kept < DAYS; kept++) {
                if (isSoIfKeptOn(kept, shelf)) {
                    kepts++;
                }
            }
            return kepts;
        }

        int leastKept(int shelf) {
            for (int kept = NEVER; kept < DAYS; kept++) {
                if (isSoIfKeptOn(kept, shelf)) {
                    return kept;
                }
            }
            return NO_KEPT_FITS;
        }
    }

    /** Days IN DEED, what is LED of them, and AN IMAGE. */
    private static final class Deeds {
        static final int PASSED = 0, PROMISED = 1, KEPT = 2, RIDES = 3, NOW = 4;

        final int[] led = new int[NOW + 1];
        boolean hasImage;
        private final Smith smith;
        private final int[] imageLed = new int[NOW + 1];
        private final int[] imageKept = new int[MOST_PROMISES];
        private int imagePromises;

        Deeds(Smith smith) {
            this.smith = smith;
        }

        int now() {
            return led[NOW];
        }

        int endDay() {
            led[RIDES] += Integer.bitCount(smith.ridersOn(led[NOW]));
            led[PASSED]++;
            led[NOW]++;
            return led[NOW];
        }

        int makePromise(int one, int due, int size) {
            led[PROMISED]++;
            return smith.addPromise(one, led[NOW], due, size);
        }

        int keepPromise(int promise) {
            led[KEPT]++;
            smith.kept[promise] = led[NOW];
            return Integer.bitCount(smith.openOnes(led[NOW]));
        }

        int keepImage() {
            System.arraycopy(led, 0, imageLed, 0, led.length);
            System.arraycopy(smith.kept, 0, imageKept, 0, smith.promises);
            imagePromises = smith.promises;
            hasImage = true;
            return led[NOW];
        }

        int layBack() {
            System.arraycopy(imageLed, 0, led, 0, led.length);
            System.arraycopy(imageKept, 0, smith.kept, 0, imagePromises);
            return led[NOW];
        }
    }

    /** CHANGES: those that stand come first, behind them those that were UNDONE. */
    private static final class Changes {
        static final int MOST_CHANGES = 40;

        int standing;
        int all;
        private final int[] numbers = new int[MOST_CHANGES];
        private final int[] whats = new int[MOST_CHANGES];
        private final int[] befores = new int[MOST_CHANGES];
        private final int[] afters = new int[MOST_CHANGES];

        Changes() {
        }

        void add(int number, int what, int before, int after) {
            if (standing == MOST_CHANGES) {
                dropOldest();
            }
            numbers[standing] = number;
            whats[standing] = what;
            befores[standing] = before;
            afters[standing] = after;
            standing++;
            all = standing;
        }

        private void dropOldest() {
            System.arraycopy(numbers, 1, numbers, 0, MOST_CHANGES - 1);
            System.arraycopy(whats, 1, whats, 0, MOST_CHANGES - 1);
            System.arraycopy(befores, 1, befores, 0, MOST_CHANGES - 1);
            System.arraycopy(afters, 1, afters, 0, MOST_CHANGES - 1);
            standing--;
        }

        void stepBack(Smith smith) {
            standing--;
            smith.become(numbers[standing], whats[standing], befores[standing]);
        }

        void stepForward(Smith smith) {
            smith.become(numbers[standing], whats[standing], afters[standing]);
            standing++;
        }
    }

    /** LINKS' ways: BODIES, their ACTS by KINDS, THE TRACE. */
    private static final class Links {
        static final int KINDS = 8, MOST_BODIES = 50, MOST_TRACED = 24;
        private static final int HOLDS = 0, RIDES = 1, CREAKS = 2, TELLS = 3, ACTS = 4, MOST_DEPTH = 30;
        /** The KIND above each KIND: LINK, RUST, TIED, PIANO, WIDOW, YARD, LAD, FRIEND. */
        private static final int[] ABOVE = {-1, 0, 0, 2, 1, 3, 0, 4};
        /** By KINDS the bodies of holds, rides, creaks, tells; 0: from above. LINK has those of its interfaces. */
        private static final int[] OWN_ACTS = {
            1, 10, 11, 2,
            20, 0, 0, 0,
            0, 30, 0, 0,
            0, 41, 40, 0,
            0, 0, 50, 0,
            0, 0, 0, 60,
            70, 0, 0, 0,
            0, 80, 0, 81,
        };

        int size;
        int ran;
        final int[] traced = new int[MOST_TRACED];
        private final int[] kinds = new int[MOST_BODIES];
        private int acting;

        Links() {
        }

        boolean isBody(int body) {
            return body >= 0 && body < size;
        }

        int add(int kind) {
            kinds[size] = kind;
            return size++;
        }

        int kindOf(int body) {
            return isBody(body) ? kinds[body] : BAD;
        }

        static boolean isUnder(int kind, int top) {
            int at = kind;
            for (int step = 0; step < KINDS && at >= 0 && at < KINDS; step++) {
                if (at == top) {
                    return true;
                }
                at = ABOVE[at];
            }
            return false;
        }

        int perform(int body, int act, int x) {
            ran = 0;
            if (!isBody(body) || !within(act, 0, ACTS - 1)) {
                return 0;
            }
            acting = body;
            return own(act, x, 0);
        }

        private int own(int act, int x, int depth) {
            return run(kinds[acting], act, x, depth);
        }

        /** What super means in a body of this KIND. */
        private int fromAbove(int kind, int act, int x, int depth) {
            return run(ABOVE[kind], act, x, depth);
        }

        /** Runs the act of a KIND, or of the next one above that has it. */
        private int run(int from, int act, int x, int depth) {
            int kind = kindWith(from, act);
            if (kind < 0 || depth >= MOST_DEPTH) {
                return 0;
            }
            int number = OWN_ACTS[kind * ACTS + act];
            note(number);
            int deeper = depth + 1;
            switch (number) {
                case 1: return x + acting;
                case 2: return own(RIDES, x, deeper) - own(CREAKS, 1, deeper);
                case 10: return own(HOLDS, x, deeper) * 2;
                case 11: return x ^ acting;
                case 20: return fromAbove(kind, HOLDS, x, deeper) + 3;
                case 30: return -fromAbove(kind, RIDES, x, deeper);
                case 40: return fromAbove(kind, CREAKS, x, deeper) * 3;
                case 41: return fromAbove(kind, RIDES, x + 1, deeper);
                case 50: return fromAbove(kind, CREAKS, x, deeper) - own(HOLDS, 2, deeper);
                case 60: return fromAbove(kind, TELLS, x, deeper) ^ 5;
                case 70: return fromAbove(kind, HOLDS, x, deeper) * 2;
                case 80: return fromAbove(kind, RIDES, x, deeper) + own(CREAKS, 2, deeper);
                case 81: return fromAbove(kind, TELLS, x, deeper) - 1;
                default: return 0;
            }
        }

        private static int kindWith(int from, int act) {
            int kind = from;
            for (int step = 0; step < KINDS && kind >= 0 && kind < KINDS; step++) {
                if (OWN_ACTS[kind * ACTS + act] != 0) {
                    return kind;
                }
                kind = ABOVE[kind];
            }
            return -1;
        }

        private void note(int number) {
            if (ran < MOST_TRACED) {
                traced[ran] = number;
            }
            ran++;
        }
    }

    /** SHELVES: nothing, a LINK, or a ROW; the elements of all ROWS stand in one row of longs. */
    private static final class Shelves {
        static final int BYTES = 0, SHORTS = 1, INTS = 2, LONGS = 3, BOOLEANS = 4, MOST_ELEMENTS = 60;
        private static final int SHELVES = 6, NOTHING = -1, LINK = 5;

        final int[] sizes = new int[SHELVES];
        final int[] bodies = new int[SHELVES];
        private final int[] holds = new int[SHELVES];
        private final long[] elements = new long[SHELVES * MOST_ELEMENTS];

        Shelves() {
            Arrays.fill(holds, NOTHING);
        }

        boolean isShelf(int shelf) {
            return shelf >= 0 && shelf < SHELVES;
        }

        int clear(int shelf) {
            holds[shelf] = NOTHING;
            return 1;
        }

        int holdLink(int shelf, int body) {
            holds[shelf] = LINK;
            bodies[shelf] = body;
            return 1;
        }

        int holdRow(int shelf, int sort, int n) {
            holds[shelf] = sort;
            sizes[shelf] = n;
            Arrays.fill(elements, shelf * MOST_ELEMENTS, (shelf + 1) * MOST_ELEMENTS, 0L);
            return 1;
        }

        private boolean holdsRow(int shelf) {
            return holds[shelf] != NOTHING && holds[shelf] != LINK;
        }

        int refusalOfRow(int shelf, int sort) {
            if (holds[shelf] == NOTHING) {
                return NOTHING_THERE;
            }
            return holds[shelf] == sort ? 0 : OTHER_KIND;
        }

        int refusalOfLink(int shelf) {
            return refusalOfRow(shelf, LINK);
        }

        int refusalOfPlace(int shelf, int i) {
            if (holds[shelf] == NOTHING) {
                return NOTHING_THERE;
            }
            if (!holdsRow(shelf)) {
                return OTHER_KIND;
            }
            return hasPlaces(shelf, i, 1) ? 0 : NO_PLACE;
        }

        int refusalOfPair(int shelf, int other) {
            if (holds[shelf] == NOTHING || holds[other] == NOTHING) {
                return NOTHING_THERE;
            }
            return holdsRow(shelf) && holds[shelf] == holds[other] ? 0 : OTHER_KIND;
        }

        /** Whether n places from i on are all there. */
        boolean hasPlaces(int shelf, int i, int n) {
            return i >= 0 && n >= 0 && n <= sizes[shelf] && i <= sizes[shelf] - n;
        }

        int putAt(int shelf, int i, long v) {
            elements[shelf * MOST_ELEMENTS + i] = lowestBits(holds[shelf], v);
            return 1;
        }

        private static long lowestBits(int sort, long v) {
            switch (sort) {
                case BYTES: return (byte) v;
                case SHORTS: return (short) v;
                case INTS: return (int) v;
                case BOOLEANS: return v != 0 ? 1 : 0;
                default: return v;
            }
        }

        long elementAt(int shelf, int i) {
            return elements[shelf * MOST_ELEMENTS + i];
        }

        int move(int shelf, int i, int other, int j, int n) {
            System.arraycopy(elements, shelf * MOST_ELEMENTS + i, elements, other * MOST_ELEMENTS + j, n);
            return n;
        }
    }
}
