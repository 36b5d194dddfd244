import java.util.Arrays;

/**
 * Sundays are mined: a seam told as a text, cells cut and propped, tubs burnt, houses that tilt.
 * The document's promises say what each public method answers; README.md says how to use it.
 */
public final class SundayPit {
    public static final int NONE = -1;
    public static final long NOTHING = -1000000000000000L;

    private static final int MOST_BYTES = 1600;
    private static final int MOST_STATEMENTS = 60;
    private static final int MOST_KINDS = 5;
    private static final int MOST_ROWS = 6;
    private static final int MOST_CELLS = 48;
    private static final int MOST_HOUSES = 6;
    private static final int MOST_MIXES = 10;
    private static final int MOST_ACTS = 20;
    private static final int MOST_TURNS = 3;
    private static final int MOST_DAYS = 30;
    private static final int MOST_OPEN = 6;
    private static final int NAME_LETTERS = 6;
    private static final int DIGITS = 4;

    // What a cell is.
    private static final int WHOLE = 0;
    private static final int CUT = 1;
    private static final int PROPPED = 2;
    private static final int FALLEN = 3;

    // Where a plan keeps its three settings, and the starts of its three formulas.
    private static final int HOLDS = 0;
    private static final int PROPS = 1;
    private static final int LEANS = 2;
    private static final int MAY = 0;
    private static final int WORTH = 1;
    private static final int TILT = 2;

    // The counters of status().
    private static final int REFUSED_TAPE = 0;
    private static final int REFUSED_TEXT = 1;
    private static final int REFUSED_ACT = 2;
    private static final int REFUSED_DAYS = 3;
    private static final int REFUSED_UNDO = 4;
    private static final int REFUSED_SEED = 5;

    // In a formula's code numbers up to 9999 stand for themselves; what is above is one of these,
    // and from FIRST_FACT on a fact.
    private static final int OP_STOP = 10000;
    private static final int OP_NOT = 10001;
    private static final int OP_TUBS = 10002;
    private static final int OP_OR = 10003;
    private static final int OP_AND = 10004;
    private static final int OP_LESS = 10005;
    private static final int OP_MORE = 10006;
    private static final int OP_SAME = 10007;
    private static final int OP_PLUS = 10008;
    private static final int OP_MINUS = 10009;
    private static final int OP_TIMES = 10010;
    private static final int OP_OVER = 10011;
    private static final int OP_MIN = 10012;
    private static final int OP_MAX = 10013;
    // Facts of a cell and of a house, by their places in the row of facts.
    private static final int FIRST_FACT = 20000;
    private static final int FACT_NUMBER = 0;
    private static final int FACT_DEPTH = 1;
    private static final int FACT_ACROSS = 2;
    private static final int FACT_REST = 3;
    private static final int FACT_GAS = 4;
    private static final int FACT_NEAR = 5;
    private static final int FACT_SPAN = 6;
    private static final int FACT_WHOLE = 7;
    private static final int FACT_OPEN = 8;
    private static final int FACT_FALLEN = 9;
    private static final int FACTS = 10;

    private final Tape tape;
    private final Tape picture;
    private final Plan plan;
    private final Plan draft;
    private final Ground ground;
    private final Mine mine;
    private final History history;
    private final Search search;
    private final Bores drill;
    private final Storage storage;
    private final Reader reader;
    private final PlanReader planReader;
    private final Question question;
    private final int[] refused;
    private final int[] verdict;
    private boolean isJudged;
    private int faultSort;
    private int faultPlace;
    private int seedNow;

    public SundayPit() {
        Plan told = new Plan();
        Plan coming = new Plan();
        Ground now = new Ground();
        Reader eyes = new Reader();
        told.clear();
        coming.clear();
        now.start(told);
        tape = new Tape(MOST_BYTES);
        picture = new Tape(Ground.FIXED_BYTES + MOST_KINDS + MOST_CELLS);
        plan = told;
        draft = coming;
        ground = now;
        mine = new Mine(told, now);
        history = new History();
        search = new Search(told, now);
        drill = new Bores(told);
        storage = new Storage(told, now);
        reader = eyes;
        planReader = new PlanReader(eyes, coming);
        question = new Question(eyes);
        refused = new int[6];
        verdict = new int[3];
        isJudged = false;
        faultSort = 0;
        faultPlace = NONE;
        seedNow = 1;
    }

    // ---- the tape and the pit

    public int feed(int a, int b, int c, int d, int e) {
        if (tape.length() + 20 > MOST_BYTES) {
            return refuse(REFUSED_TAPE);
        }
        tape.addFour(a);
        tape.addFour(b);
        tape.addFour(c);
        tape.addFour(d);
        tape.addFour(e);
        return tape.length();
    }

    public boolean end(int n) {
        if (n < 0 || n > tape.length()) {
            refuse(REFUSED_TAPE);
            return false;
        }
        tape.shorten(n);
        return true;
    }

    public int pit() {
        boolean isRead = planReader.readPlan(tape);
        tape.shorten(0);
        keepFault();
        if (!isRead) {
            return refuse(REFUSED_TEXT);
        }
        plan.copyFrom(draft);
        ground.start(plan);
        drill.forget();
        history.forget();
        search.forget();
        isJudged = false;
        return plan.statements;
    }

    public int fault(int what) {
        switch (what) {
            case 0: return faultSort;
            case 1: return faultPlace;
            default: return NONE;
        }
    }

    // ---- what there is

    public int has(int what) {
        switch (what) {
            case 0: return plan.columns;
            case 1: return plan.rows;
            case 2: return plan.kinds;
            case 3: return plan.houses;
            case 4: return plan.mixes;
            case 5: return plan.settings[HOLDS];
            case 6: return ground.props;
            case 7: return ground.tubsInAll();
            case 8: return ground.worth;
            case 9: return ground.rest;
            case 10: return ground.tally(CUT) + ground.tally(PROPPED);
            case 11: return ground.tally(FALLEN);
            case 12: return mine.countCuttable();
            case 13: return history.size();
            default: return NONE;
        }
    }

    public int letter(int kind, int which, int k) {
        if (which < 0 || k < 0 || k >= NAME_LETTERS) {
            return NONE;
        }
        if (kind == 0 && which < plan.kinds) {
            return plan.kindNames[which * NAME_LETTERS + k];
        }
        if (kind == 1 && which < plan.houses) {
            return plan.houseNames[which * NAME_LETTERS + k];
        }
        return NONE;
    }

    public int kind(int kind, int what) {
        if (kind < 0 || kind >= plan.kinds) {
            return NONE;
        }
        switch (what) {
            case 0: return plan.rest[kind];
            case 1: return plan.gas[kind];
            case 2: return ground.store[kind];
            case 3: return plan.foes[kind];
            case 4: return mine.countOfKind(kind, false);
            case 5: return mine.countOfKind(kind, true);
            default: return NONE;
        }
    }

    public int cell(int cell, int what) {
        if (!plan.isCell(cell)) {
            return NONE;
        }
        switch (what) {
            case 0: return plan.kindOf(cell);
            case 1: return ground.state[cell];
            case 2: return mine.near(cell);
            case 3: return mine.span(cell);
            case 4:
                mine.look();
                return mine.isReached(cell) ? 1 : 0;
            case 5:
                mine.look();
                return mine.why(cell);
            case 6: return mine.price(cell);
            default: return NONE;
        }
    }

    public int house(int house, int what) {
        if (house < 0 || house >= plan.houses) {
            return NONE;
        }
        switch (what) {
            case 0: return plan.houseColumns[house];
            case 1: return mine.tiltOf(house);
            case 2: return mine.tiltOf(house) > plan.settings[LEANS] ? 1 : 0;
            default: return NONE;
        }
    }

    // ---- orders, the best, rivals

    public int judge() {
        int count = search.judgeOrder(tape, verdict);
        tape.shorten(0);
        if (count == NONE) {
            return refuse(REFUSED_TEXT);
        }
        isJudged = true;
        return count;
    }

    public int judged(int what) {
        if (!isJudged || what < 0 || what >= verdict.length) {
            return NONE;
        }
        return verdict[what];
    }

    public int best(int n, int k) {
        if (n < 1 || n > MOST_TURNS) {
            return NONE;
        }
        return search.tellBest(n, k);
    }

    public long rivals(int n, int k) {
        if (n < 0 || n > MOST_TURNS || k < NONE || k >= n) {
            return NOTHING;
        }
        return search.tellRivals(n, k);
    }

    public int stores(int k) {
        if (k < NONE || k >= plan.kinds) {
            return NONE;
        }
        int count = storage.share();
        return k == NONE ? count : storage.storeOf(k);
    }

    // ---- acts

    public int cut(int cell) {
        mine.look();
        if (mine.why(cell) != 0) {
            return refuse(REFUSED_ACT);
        }
        beginAct();
        int worth = mine.price(cell);
        mine.dig(cell, worth);
        return worth;
    }

    public boolean prop(int cell) {
        if (!plan.isCell(cell) || ground.state[cell] != CUT || ground.props <= 0) {
            refuse(REFUSED_ACT);
            return false;
        }
        beginAct();
        ground.state[cell] = PROPPED;
        ground.props--;
        return true;
    }

    public boolean burn(int kind) {
        if (kind < 0 || kind >= plan.kinds || ground.store[kind] <= 0) {
            refuse(REFUSED_ACT);
            return false;
        }
        beginAct();
        ground.store[kind]--;
        ground.rest += plan.rest[kind];
        return true;
    }

    public int days(int n) {
        if (n < 1 || n > MOST_DAYS || !plan.isTold()) {
            return refuse(REFUSED_DAYS);
        }
        beginAct();
        int blasts = 0;
        for (int day = 0; day < n; day++) {
            if (workOneDay()) {
                blasts++;
            }
        }
        return blasts;
    }

    public boolean undo() {
        if (!history.giveBack(ground)) {
            refuse(REFUSED_UNDO);
            return false;
        }
        search.forget();
        return true;
    }

    public boolean seed(int seed) {
        if (seed < 0) {
            refuse(REFUSED_SEED);
            return false;
        }
        seedNow = seed;
        return true;
    }

    // ---- bores, thefts

    public int bores() {
        int count = drill.readRows(tape);
        tape.shorten(0);
        return count == NONE ? refuse(REFUSED_TEXT) : count;
    }

    public int fits(int what) {
        switch (what) {
            case 0: return Integer.bitCount(drill.fitBits());
            case 1: return drill.fitBits();
            case 2: return drill.firstFit();
            default: return NONE;
        }
    }

    public int next(int what) {
        switch (what) {
            case 0: return drill.nextCell();
            case 1: return drill.mostAlike(drill.nextCell());
            default: return NONE;
        }
    }

    public int theft(int n, int what) {
        if (n < 0) {
            return NONE;
        }
        if (what == 0) {
            return storage.countSets(n);
        }
        if (what < 10 || what >= 10 + plan.kinds) {
            return NONE;
        }
        return storage.countSets(n) == 0 ? NONE : storage.fewestOf(what - 10);
    }

    // ---- questions

    public long ask() {
        if (!plan.isTold()) {
            tape.shorten(0);
            return NOTHING;
        }
        // The draft's code is free between two readings of a pit.
        boolean isRead = question.readQuestion(tape, draft.code);
        tape.shorten(0);
        keepFault();
        return isRead ? question.answer(mine, draft.code) : NOTHING;
    }

    // ---- images, refusals

    public int image() {
        ground.write(plan, picture);
        return picture.length();
    }

    public int octet(int k) {
        return picture.at(k);
    }

    public boolean on() {
        boolean isGood = plan.isTold() && Ground.isImage(plan, tape);
        if (isGood) {
            ground.read(plan, tape);
            history.forget();
            search.forget();
        } else {
            refuse(REFUSED_SEED);
        }
        tape.shorten(0);
        return isGood;
    }

    public int status(int what) {
        if (what < 0 || what >= refused.length) {
            return NONE;
        }
        return refused[what];
    }

    // ---- helpers of the calls

    private int refuse(int what) {
        refused[what]++;
        return NONE;
    }

    private void keepFault() {
        faultSort = reader.fault;
        faultPlace = reader.place;
    }

    private void beginAct() {
        history.keep(ground);
        search.forget();
    }

    /** A number from 0 to below m, drawn by the seed. */
    private int draw(int m) {
        long grown = 1103515245L * seedNow + 12345L;
        seedNow = (int) (grown & 0x7fffffffL);
        return m > 0 ? (seedNow / 64) % m : 0;
    }

    /** Whether there was a blast. */
    private boolean workOneDay() {
        int choices = mine.countCuttable();
        if (choices == 0) {
            return false;
        }
        int cell = mine.cuttable(draw(choices));
        if (cell == NONE) {
            return false;
        }
        int worth = mine.price(cell);
        mine.dig(cell, worth);
        if (draw(100) >= plan.gasOf(cell)) {
            return false;
        }
        mine.blast(cell, worth);
        return true;
    }

    /** A row of bytes with a limit. */
    private static final class Tape {
        private final int[] bytes;
        private int count;

        Tape(int limit) {
            bytes = new int[Math.max(0, limit)];
            count = 0;
        }

        int length() {
            return count;
        }

        /** Byte k, NONE beyond the tape. */
        int at(int k) {
            return k < 0 || k >= count ? NONE : bytes[k];
        }

        void shorten(int length) {
            if (length >= 0 && length <= count) {
                count = length;
            }
        }

        void add(int value) {
            if (count < bytes.length) {
                bytes[count] = value & 255;
                count++;
            }
        }

        void addThree(int value) {
            add(value >>> 16);
            add(value >>> 8);
            add(value);
        }

        void addFour(int value) {
            add(value >>> 24);
            addThree(value);
        }

        int threeAt(int k) {
            return (at(k) << 16) + (at(k + 1) << 8) + at(k + 2);
        }

        /** The byte that guards an image: of the first so many bytes. */
        int guard(int length) {
            int c = 223;
            for (int i = 0; i < length && i < count; i++) {
                c = (3 * c + bytes[i]) % 251;
            }
            return c;
        }
    }

    /** The pit as it is told. A seam's cell is its kind and 1, or 0 for rock. */
    private static final class Plan {
        static final int WAYS = 4;

        int statements;
        int cells;
        int columns;
        int shaft;
        int rows;
        int kinds;
        int houses;
        int mixes;
        final int[] settings = new int[3];
        final int[] formulas = new int[3];
        final int[] rest = new int[MOST_KINDS];
        final int[] gas = new int[MOST_KINDS];
        final int[] foes = new int[MOST_KINDS];
        final int[] kindNames = new int[MOST_KINDS * NAME_LETTERS];
        final int[] houseNames = new int[MOST_HOUSES * NAME_LETTERS];
        final int[] houseColumns = new int[MOST_HOUSES];
        final int[] seam = new int[MOST_CELLS];
        private final int[] besides = new int[WAYS * MOST_CELLS];
        // A token of the text makes at most one step of code, so no text needs more.
        final int[] code = new int[MOST_BYTES];

        void clear() {
            statements = 0;
            cells = 0;
            columns = 0;
            shaft = 0;
            rows = 0;
            kinds = 0;
            houses = 0;
            mixes = 0;
            settings[HOLDS] = 3;
            settings[PROPS] = 5;
            settings[LEANS] = 10;
            Arrays.fill(formulas, NONE);
            Arrays.fill(foes, 0);
        }

        void copyFrom(Plan other) {
            statements = other.statements;
            columns = other.columns;
            shaft = other.shaft;
            rows = other.rows;
            kinds = other.kinds;
            houses = other.houses;
            mixes = other.mixes;
            copyRow(other.settings, settings);
            copyRow(other.formulas, formulas);
            copyRow(other.rest, rest);
            copyRow(other.gas, gas);
            copyRow(other.foes, foes);
            copyRow(other.kindNames, kindNames);
            copyRow(other.houseNames, houseNames);
            copyRow(other.houseColumns, houseColumns);
            copyRow(other.seam, seam);
            copyRow(other.code, code);
            layOut();
        }

        private static void copyRow(int[] from, int[] to) {
            System.arraycopy(from, 0, to, 0, Math.min(from.length, to.length));
        }

        boolean isTold() {
            return statements > 0;
        }

        /** Numbers the cells, and finds for each one those above, left, right and below. */
        private void layOut() {
            cells = Math.min(MOST_CELLS, columns * rows);
            Arrays.fill(besides, NONE);
            for (int cell = 0; cell < cells; cell++) {
                int column = columnOf(cell);
                besides[WAYS * cell] = cell >= columns ? cell - columns : NONE;
                besides[WAYS * cell + 1] = column > 0 ? cell - 1 : NONE;
                besides[WAYS * cell + 2] = column < columns - 1 ? cell + 1 : NONE;
                besides[WAYS * cell + 3] = cell + columns < cells ? cell + columns : NONE;
            }
        }

        boolean isCell(int cell) {
            return cell >= 0 && cell < cells;
        }

        int columnOf(int cell) {
            return columns > 0 ? cell % columns : 0;
        }

        int rowOf(int cell) {
            return columns > 0 ? cell / columns : 0;
        }

        /** What is told of a place: its kind and 1; rock, 0, beyond the seam too. */
        int toldAt(int column, int row) {
            if (column < 0 || column >= columns || row < 0 || row >= rows) {
                return 0;
            }
            int cell = row * columns + column;
            return isCell(cell) ? seam[cell] : 0;
        }

        /** NONE of rock. */
        int kindOf(int cell) {
            return isCell(cell) ? seam[cell] - 1 : NONE;
        }

        int restOf(int cell) {
            int kind = kindOf(cell);
            return kind >= 0 && kind < kinds ? rest[kind] : 0;
        }

        int gasOf(int cell) {
            int kind = kindOf(cell);
            return kind >= 0 && kind < kinds ? gas[kind] : 0;
        }

        /** The cell beside this one, on one of four ways; NONE beyond the seam. */
        int beside(int cell, int way) {
            return isCell(cell) && way >= 0 && way < WAYS ? besides[WAYS * cell + way] : NONE;
        }

        int findName(int[] names, int count, int[] name) {
            for (int i = 0; i < count; i++) {
                if (isName(names, i, name)) {
                    return i;
                }
            }
            return NONE;
        }

        private static boolean isName(int[] names, int which, int[] name) {
            int from = which * NAME_LETTERS;
            for (int k = 0; k < NAME_LETTERS && k < name.length; k++) {
                if (from < 0 || from + k >= names.length || names[from + k] != name[k]) {
                    return false;
                }
            }
            return true;
        }
    }

    /** What has been done to the seam, and what came of it. */
    private static final class Ground {
        static final int FIXED_BYTES = 8;
        private static final int HEAD_BYTES = 7;
        private static final int MOST_SUM = 999999;
        private static final int MOST_TUBS = 20;

        final int[] state = new int[MOST_CELLS];
        final int[] store = new int[MOST_KINDS];
        int props;
        int worth;
        int rest;

        void start(Plan plan) {
            Arrays.fill(state, WHOLE);
            Arrays.fill(store, 0);
            props = plan.settings[PROPS];
            worth = 0;
            rest = 0;
        }

        void copyFrom(Ground other) {
            System.arraycopy(other.state, 0, state, 0, MOST_CELLS);
            System.arraycopy(other.store, 0, store, 0, MOST_KINDS);
            props = other.props;
            worth = other.worth;
            rest = other.rest;
        }

        boolean is(int cell, int what) {
            return cell >= 0 && cell < MOST_CELLS && state[cell] == what;
        }

        boolean isOpen(int cell) {
            return is(cell, CUT) || is(cell, PROPPED);
        }

        /** How many cells are so; not asked of WHOLE, which the cells beyond the seam are too. */
        int tally(int what) {
            int count = 0;
            for (int cell = 0; cell < MOST_CELLS; cell++) {
                if (state[cell] == what) {
                    count++;
                }
            }
            return count;
        }

        int tubs(int kind) {
            return kind >= 0 && kind < MOST_KINDS ? store[kind] : 0;
        }

        int tubsInAll() {
            int sum = 0;
            for (int kind = 0; kind < MOST_KINDS; kind++) {
                sum += store[kind];
            }
            return sum;
        }

        void write(Plan plan, Tape out) {
            out.shorten(0);
            out.add(props);
            out.addThree(worth);
            out.addThree(rest);
            for (int kind = 0; kind < plan.kinds && kind < MOST_KINDS; kind++) {
                out.add(store[kind]);
            }
            for (int cell = 0; cell < plan.cells; cell++) {
                out.add(state[cell]);
            }
            out.add(out.guard(out.length()));
        }

        static boolean isImage(Plan plan, Tape in) {
            int length = in.length();
            int firstCell = HEAD_BYTES + plan.kinds;
            if (length != FIXED_BYTES + plan.kinds + plan.cells) {
                return false;
            }
            if (in.at(0) > plan.settings[PROPS] || in.threeAt(1) > MOST_SUM || in.threeAt(4) > MOST_SUM) {
                return false;
            }
            for (int k = HEAD_BYTES; k < length - 1; k++) {
                if (in.at(k) > (k < firstCell ? MOST_TUBS : FALLEN)) {
                    return false;
                }
            }
            return in.at(length - 1) == in.guard(length - 1);
        }

        /** Asked only behind isImage(). */
        void read(Plan plan, Tape in) {
            props = in.at(0);
            worth = in.threeAt(1);
            rest = in.threeAt(4);
            for (int kind = 0; kind < plan.kinds && kind < MOST_KINDS; kind++) {
                store[kind] = in.at(HEAD_BYTES + kind);
            }
            for (int cell = 0; cell < plan.cells; cell++) {
                state[cell] = in.at(HEAD_BYTES + plan.kinds + cell);
            }
        }
    }

    /** The rules of a plan on one ground. */
    private static final class Mine {
        private static final int MOST_VALUE = 1000000;
        private static final int MOST_WORTH = 999;
        private static final int MOST_TILT = 9999;
        // Six brackets are open at most, and five values wait in each.
        private static final int STACK = 64;

        final Plan plan;
        final Ground ground;
        private final int[] reached = new int[MOST_CELLS];
        private final int[] queue = new int[MOST_CELLS];
        private final int[] stack = new int[STACK];
        private final int[] facts = new int[FACTS];
        private int waiting;

        Mine(Plan plan, Ground ground) {
            this.plan = plan;
            this.ground = ground;
        }

        /** Finds what is reached; due ahead of isReached() and why(), once the ground has changed. */
        void look() {
            Arrays.fill(reached, 0);
            waiting = 0;
            if (plan.cells > 0) {
                reach(plan.shaft);
            }
            for (int i = 0; i < waiting && i < queue.length; i++) {
                for (int way = 0; way < Plan.WAYS; way++) {
                    reach(plan.beside(queue[i], way));
                }
            }
        }

        private void reach(int cell) {
            if (!ground.isOpen(cell) || reached[cell] != 0 || waiting >= queue.length) {
                return;
            }
            reached[cell] = 1;
            queue[waiting] = cell;
            waiting++;
        }

        boolean isReached(int cell) {
            return cell >= 0 && cell < MOST_CELLS && reached[cell] != 0;
        }

        /** Why a cell can't be cut: 0 when it can. */
        int why(int cell) {
            if (!plan.isCell(cell) || !ground.is(cell, WHOLE)) {
                return 1;
            }
            if (cell != plan.shaft && !isBesideReached(cell)) {
                return 2;
            }
            int start = plan.formulas[MAY];
            if (start == NONE) {
                return 0;
            }
            loadCell(cell);
            return value(plan.code, start) != 0 ? 0 : 3;
        }

        private boolean isBesideReached(int cell) {
            for (int way = 0; way < Plan.WAYS; way++) {
                if (isReached(plan.beside(cell, way))) {
                    return true;
                }
            }
            return false;
        }

        int countCuttable() {
            look();
            int count = 0;
            for (int cell = 0; cell < plan.cells; cell++) {
                if (why(cell) == 0) {
                    count++;
                }
            }
            return count;
        }

        /** Of the cells that can be cut the one with so many ahead of it. */
        int cuttable(int ahead) {
            look();
            int count = 0;
            for (int cell = 0; cell < plan.cells; cell++) {
                if (why(cell) == 0) {
                    if (count == ahead) {
                        return cell;
                    }
                    count++;
                }
            }
            return NONE;
        }

        int countOfKind(int kind, boolean wholeOnly) {
            int count = 0;
            for (int cell = 0; cell < plan.cells; cell++) {
                if (plan.kindOf(cell) == kind && (!wholeOnly || ground.is(cell, WHOLE))) {
                    count++;
                }
            }
            return count;
        }

        int near(int cell) {
            int count = 0;
            for (int way = 0; way < Plan.WAYS; way++) {
                if (ground.isOpen(plan.beside(cell, way))) {
                    count++;
                }
            }
            return count;
        }

        /** Asked of a cell of the seam only, as spanEnd() is. */
        private int spanStart(int cell) {
            int first = Math.max(0, cell - plan.columnOf(cell));
            for (int i = cell - 1; i >= first; i--) {
                if (ground.state[i] != CUT) {
                    return i + 1;
                }
            }
            return first;
        }

        private int spanEnd(int cell) {
            int last = Math.min(MOST_CELLS, cell - plan.columnOf(cell) + plan.columns) - 1;
            for (int i = cell + 1; i <= last; i++) {
                if (ground.state[i] != CUT) {
                    return i - 1;
                }
            }
            return last;
        }

        int span(int cell) {
            return spanEnd(cell) - spanStart(cell) + 1;
        }

        boolean wouldFall(int cell) {
            return span(cell) > plan.settings[HOLDS];
        }

        int price(int cell) {
            if (plan.kindOf(cell) == NONE) {
                return 0;
            }
            int start = plan.formulas[WORTH];
            if (start == NONE) {
                return plan.restOf(cell);
            }
            loadCell(cell);
            return Math.max(0, Math.min(MOST_WORTH, value(plan.code, start)));
        }

        /** Cuts a cell that can be cut; its price is asked for ahead of it, as all is then. */
        void dig(int cell, int worth) {
            if (!plan.isCell(cell)) {
                return;
            }
            int kind = plan.kindOf(cell);
            int first = spanStart(cell);
            int last = spanEnd(cell);
            if (kind >= 0 && kind < MOST_KINDS) {
                ground.store[kind]++;
            }
            ground.worth += worth;
            ground.state[cell] = CUT;
            if (last - first + 1 > plan.settings[HOLDS]) {
                for (int i = first; i <= last; i++) {
                    fell(i);
                }
            }
        }

        /** The blast of a cell that was cut just now, its tub being worth so much. */
        void blast(int cell, int worth) {
            int kind = plan.kindOf(cell);
            if (kind >= 0 && kind < MOST_KINDS) {
                ground.store[kind]--;
            }
            ground.worth -= worth;
            fell(cell);
            for (int way = 0; way < Plan.WAYS; way++) {
                int other = plan.beside(cell, way);
                if (ground.isOpen(other)) {
                    fell(other);
                }
            }
        }

        private void fell(int cell) {
            if (plan.isCell(cell)) {
                ground.state[cell] = FALLEN;
            }
        }

        int tiltOf(int house) {
            loadHouse(house);
            int start = plan.formulas[TILT];
            int tilt = start == NONE
                    ? facts[FACT_OPEN] + 2 * facts[FACT_FALLEN]
                    : value(plan.code, start);
            return Math.max(0, Math.min(MOST_TILT, tilt));
        }

        /** The facts of a cell; due ahead of value(). */
        void loadCell(int cell) {
            facts[FACT_NUMBER] = cell;
            facts[FACT_DEPTH] = plan.rowOf(cell);
            facts[FACT_ACROSS] = plan.columnOf(cell);
            facts[FACT_REST] = plan.restOf(cell);
            facts[FACT_GAS] = plan.gasOf(cell);
            facts[FACT_NEAR] = near(cell);
            facts[FACT_SPAN] = span(cell);
            facts[FACT_WHOLE] = ground.is(cell, WHOLE) ? 1 : 0;
            facts[FACT_OPEN] = ground.isOpen(cell) ? 1 : 0;
            facts[FACT_FALLEN] = ground.is(cell, FALLEN) ? 1 : 0;
        }

        /** The facts of a house; the others are not asked of it. */
        private void loadHouse(int house) {
            Arrays.fill(facts, 0);
            if (house < 0 || house >= plan.houses || house >= MOST_HOUSES) {
                return;
            }
            int across = plan.houseColumns[house];
            facts[FACT_ACROSS] = across;
            for (int cell = 0; cell < plan.cells; cell++) {
                if (Math.abs(plan.columnOf(cell) - across) <= 1) {
                    facts[FACT_OPEN] += ground.isOpen(cell) ? 1 : 0;
                    facts[FACT_FALLEN] += ground.is(cell, FALLEN) ? 1 : 0;
                }
            }
        }

        /** What a formula's code gives with the facts that are loaded; a test gives 1 or 0. */
        int value(int[] code, int start) {
            int depth = 0;
            for (int i = Math.max(0, start); i < code.length; i++) {
                int op = code[i];
                if (op == OP_STOP) {
                    break;
                }
                if (op < OP_STOP || op >= FIRST_FACT) {
                    if (depth < stack.length) {
                        stack[depth] = op < OP_STOP ? op : factAt(op - FIRST_FACT);
                        depth++;
                    }
                } else if (op == OP_NOT || op == OP_TUBS) {
                    if (depth > 0) {
                        int last = stack[depth - 1];
                        stack[depth - 1] = op == OP_NOT ? 1 - last : ground.tubs(last);
                    }
                } else if (depth > 1) {
                    depth--;
                    stack[depth - 1] = join(op, stack[depth - 1], stack[depth]);
                }
            }
            return depth > 0 ? stack[depth - 1] : 0;
        }

        private int factAt(int which) {
            return which >= 0 && which < facts.length ? facts[which] : 0;
        }

        private static int join(int op, int left, int right) {
            long value = 0;
            switch (op) {
                case OP_OR: value = left | right; break;
                case OP_AND: value = left & right; break;
                case OP_LESS: value = left < right ? 1 : 0; break;
                case OP_MORE: value = left > right ? 1 : 0; break;
                case OP_SAME: value = left == right ? 1 : 0; break;
                case OP_PLUS: value = (long) left + right; break;
                case OP_MINUS: value = (long) left - right; break;
                case OP_TIMES: value = (long) left * right; break;
                case OP_OVER: value = right == 0 ? 0 : Math.floorDiv(left, right); break;
                case OP_MIN: value = Math.min(left, right); break;
                case OP_MAX: value = Math.max(left, right); break;
                default: break;
            }
            return (int) Math.max(-MOST_VALUE, Math.min(MOST_VALUE, value));
        }
    }

    /** The grounds ahead of the last acts, in a ring. */
    private static final class History {
        private final Ground[] kept = new Ground[MOST_ACTS];
        private int first;
        private int count;

        History() {
            for (int i = 0; i < kept.length; i++) {
                kept[i] = new Ground();
            }
            first = 0;
            count = 0;
        }

        int size() {
            return count;
        }

        void forget() {
            count = 0;
        }

        void keep(Ground ground) {
            kept[(first + count) % MOST_ACTS].copyFrom(ground);
            if (count < MOST_ACTS) {
                count++;
            } else {
                first = (first + 1) % MOST_ACTS;
            }
        }

        boolean giveBack(Ground ground) {
            if (count == 0) {
                return false;
            }
            count--;
            ground.copyFrom(kept[(first + count) % MOST_ACTS]);
            return true;
        }
    }

    /** What comes of cells cut one behind the other, tried on grounds of its own. */
    private static final class Search {
        private static final int COUNT = 20;
        private static final int IS_OVER = 100;

        private final Plan plan;
        private final Ground now;
        private final Mine[] levels = new Mine[MOST_TURNS];
        private final int[] path = new int[MOST_TURNS];
        private final int[] bestPath = new int[MOST_TURNS];
        private final int[][] lines = new int[MOST_TURNS + 1][MOST_TURNS];
        private int bestCount;
        private int bestWorth;
        private int duelWorth;
        // For how many turns the answers kept here are; NONE when they are not of the ground as it is.
        private int bestTurns;
        private int duelTurns;

        Search(Plan plan, Ground now) {
            this.plan = plan;
            this.now = now;
            for (int i = 0; i < levels.length; i++) {
                levels[i] = new Mine(plan, new Ground());
            }
            bestTurns = NONE;
            duelTurns = NONE;
        }

        void forget() {
            bestTurns = NONE;
            duelTurns = NONE;
        }

        /** How many cells of the order could be cut; NONE when it is no order. */
        int judgeOrder(Tape order, int[] verdict) {
            if (!isOrder(order) || verdict.length < 3) {
                return NONE;
            }
            Mine mine = levels[0];
            mine.ground.copyFrom(now);
            int count = 0;
            int why = 0;
            int worth = 0;
            for (int i = 0; i < order.length() && why == 0; i++) {
                mine.look();
                why = mine.why(order.at(i));
                if (why == 0) {
                    int price = mine.price(order.at(i));
                    mine.dig(order.at(i), price);
                    worth += price;
                    count++;
                }
            }
            verdict[0] = why;
            verdict[1] = worth;
            verdict[2] = mine.ground.tally(FALLEN) - now.tally(FALLEN);
            return count;
        }

        private boolean isOrder(Tape order) {
            if (order.length() > MOST_CELLS) {
                return false;
            }
            for (int i = 0; i < order.length(); i++) {
                if (!plan.isCell(order.at(i))) {
                    return false;
                }
            }
            return true;
        }

        int tellBest(int turns, int k) {
            if (turns != bestTurns) {
                bestCount = 0;
                bestWorth = 0;
                levels[0].ground.copyFrom(now);
                tryAll(0, turns, 0);
                bestTurns = turns;
            }
            if (bestCount == 0) {
                return NONE;
            }
            if (k == NONE) {
                return bestWorth;
            }
            if (k == COUNT) {
                return bestCount;
            }
            return k >= 0 && k < bestCount && k < bestPath.length ? bestPath[k] : NONE;
        }

        /** Goes through all paths by numbers, so of like ones the first is kept. */
        private void tryAll(int level, int turns, int worth) {
            keepIfBetter(level, worth);
            if (level >= turns || level >= levels.length) {
                return;
            }
            Mine mine = levels[level];
            mine.look();
            for (int cell = 0; cell < plan.cells; cell++) {
                if (mine.why(cell) == 0 && !mine.wouldFall(cell)) {
                    int price = mine.price(cell);
                    path[level] = cell;
                    digBelow(level, cell, price);
                    tryAll(level + 1, turns, worth + price);
                }
            }
        }

        private void keepIfBetter(int count, int worth) {
            if (count > bestCount || count == bestCount && worth > bestWorth) {
                bestCount = count;
                bestWorth = worth;
                System.arraycopy(path, 0, bestPath, 0, MOST_TURNS);
            }
        }

        /** Cuts a cell on the next level's ground; behind the last level none looks. */
        private void digBelow(int level, int cell, int price) {
            if (level + 1 < levels.length) {
                levels[level + 1].ground.copyFrom(levels[level].ground);
                levels[level + 1].dig(cell, price);
            }
        }

        int tellRivals(int turns, int k) {
            if (turns != duelTurns) {
                levels[0].ground.copyFrom(now);
                duelWorth = duel(0, turns);
                duelTurns = turns;
            }
            return k >= 0 && k < MOST_TURNS ? lines[0][k] : duelWorth;
        }

        /** The worth for the one whose turn it is; his line of cells is in the level's row. */
        private int duel(int level, int turns) {
            if (level >= turns || level >= levels.length) {
                return 0;
            }
            Mine mine = levels[level];
            int most = 0;
            boolean isFound = false;
            Arrays.fill(lines[level], IS_OVER);
            mine.look();
            for (int cell = 0; cell < plan.cells; cell++) {
                if (mine.why(cell) == 0) {
                    int price = mine.price(cell);
                    digBelow(level, cell, price);
                    int worth = price - duel(level + 1, turns);
                    if (!isFound || worth > most) {
                        isFound = true;
                        most = worth;
                        keepLine(level, cell);
                    }
                }
            }
            return most;
        }

        private void keepLine(int level, int cell) {
            System.arraycopy(lines[level + 1], 0, lines[level], 0, MOST_TURNS);
            lines[level][level] = cell;
        }
    }

    /** The bores that are told, and where the seam may lie by them. */
    private static final class Bores {
        private static final int MOST_BORES = 20;
        private static final int SHIFTS = 15;

        private final Plan plan;
        private final int[] rows = new int[3 * MOST_BORES];
        private final int[] alike = new int[MOST_KINDS + 1];
        private int count;

        Bores(Plan plan) {
            this.plan = plan;
            count = 0;
        }

        void forget() {
            count = 0;
        }

        /** How many rows; NONE when the tape tells none such. */
        int readRows(Tape tape) {
            int length = tape.length();
            if (length == 0 || length > rows.length || length % 3 != 0) {
                return NONE;
            }
            for (int i = 0; i < length; i += 3) {
                if (tape.at(i) >= plan.columns || tape.at(i + 1) >= plan.rows || tape.at(i + 2) > plan.kinds) {
                    return NONE;
                }
            }
            for (int i = 0; i < length; i++) {
                rows[i] = tape.at(i);
            }
            count = length / 3;
            return count;
        }

        /** What is told of a place, if the seam lies by the shift of this bit. */
        private int shifted(int bit, int column, int row) {
            int right = bit % 5 - 2;
            int down = bit / 5 - 1;
            return plan.toldAt(column - right, row - down);
        }

        private boolean isFit(int bit) {
            for (int i = 0; i < 3 * count && i + 2 < rows.length; i += 3) {
                if (shifted(bit, rows[i], rows[i + 1]) != rows[i + 2]) {
                    return false;
                }
            }
            return true;
        }

        int fitBits() {
            int bits = 0;
            for (int bit = 0; bit < SHIFTS; bit++) {
                if (isFit(bit)) {
                    bits |= 1 << bit;
                }
            }
            return bits;
        }

        int firstFit() {
            int bits = fitBits();
            return bits == 0 ? NONE : Integer.numberOfTrailingZeros(bits);
        }

        /** The cell to bore next; NONE without fits or cells. */
        int nextCell() {
            int bits = fitBits();
            int found = NONE;
            int fewest = SHIFTS + 1;
            for (int cell = 0; cell < plan.cells && bits != 0; cell++) {
                int most = countAlike(bits, cell);
                if (most < fewest) {
                    fewest = most;
                    found = cell;
                }
            }
            return found;
        }

        /** How many fits tell the cell alike at the most. */
        int mostAlike(int cell) {
            return cell == NONE ? NONE : countAlike(fitBits(), cell);
        }

        private int countAlike(int bits, int cell) {
            int most = 0;
            Arrays.fill(alike, 0);
            for (int bit = 0; bit < SHIFTS; bit++) {
                int told = shifted(bit, plan.columnOf(cell), plan.rowOf(cell));
                if ((bits >> bit & 1) != 0 && told >= 0 && told < alike.length) {
                    alike[told]++;
                    most = Math.max(most, alike[told]);
                }
            }
            return most;
        }
    }

    /** Which kinds share a store, and which tubs a thief may have taken. */
    private static final class Storage {
        private final Plan plan;
        private final Ground ground;
        private final int[] places = new int[MOST_KINDS];
        private final int[] taken = new int[MOST_KINDS];
        private final int[] fewest = new int[MOST_KINDS];
        // The rest of all tubs of a kind and of those behind it.
        private final int[] restBehind = new int[MOST_KINDS + 1];
        private int sets;

        Storage(Plan plan, Ground ground) {
            this.plan = plan;
            this.ground = ground;
        }

        private int kinds() {
            return Math.min(MOST_KINDS, plan.kinds);
        }

        /** The fewest stores that do; storeOf() tells the shares then. */
        int share() {
            for (int limit = 0; limit < MOST_KINDS; limit++) {
                if (place(0, 0, limit)) {
                    return limit;
                }
            }
            // A store for each kind always does.
            place(0, 0, MOST_KINDS);
            return MOST_KINDS;
        }

        int storeOf(int kind) {
            return kind >= 0 && kind < MOST_KINDS ? places[kind] : NONE;
        }

        /** Whether this kind and those behind it find places, used stores being taken already. */
        private boolean place(int kind, int used, int limit) {
            if (kind >= kinds()) {
                return true;
            }
            for (int store = 0; store <= used && store < limit; store++) {
                if (isFree(kind, store)) {
                    places[kind] = store;
                    if (place(kind + 1, Math.max(used, store + 1), limit)) {
                        return true;
                    }
                }
            }
            return false;
        }

        private boolean isFree(int kind, int store) {
            for (int other = 0; other < kind; other++) {
                if (places[other] == store && (plan.foes[kind] >> other & 1) != 0) {
                    return false;
                }
            }
            return true;
        }

        /** How many sets of tubs have just so much rest; fewestOf() tells of them then. */
        int countSets(int rest) {
            sets = 0;
            restBehind[kinds()] = 0;
            for (int kind = kinds() - 1; kind >= 0; kind--) {
                restBehind[kind] = restBehind[kind + 1] + plan.rest[kind] * ground.store[kind];
            }
            take(0, rest);
            return sets;
        }

        int fewestOf(int kind) {
            return kind >= 0 && kind < MOST_KINDS ? fewest[kind] : NONE;
        }

        /** Goes through what may be taken of this kind and those behind it; what can't do is left out. */
        private void take(int kind, int left) {
            if (kind >= kinds()) {
                if (left == 0) {
                    keepSet();
                }
                return;
            }
            int rest = plan.rest[kind];
            if (rest <= 0 || left > restBehind[kind]) {
                return;
            }
            int needed = Math.max(0, left - restBehind[kind + 1]);
            int most = Math.min(ground.store[kind], left / rest);
            for (int tubs = (needed + rest - 1) / rest; tubs <= most; tubs++) {
                taken[kind] = tubs;
                take(kind + 1, left - tubs * rest);
            }
        }

        private void keepSet() {
            for (int kind = 0; kind < kinds(); kind++) {
                if (sets == 0 || taken[kind] < fewest[kind]) {
                    fewest[kind] = taken[kind];
                }
            }
            sets++;
        }
    }

    /** Reads a text word by word, and tests and sums into code; it stops at the first fault. */
    private static final class Reader {
        // The own words, and behind them the six words with which a question begins.
        private static final String WORDS = "pit at kind rest gas row house mix may worth tilt holds props leans depth across near span open fallen whole number tubs or and not all min max first last often total most least ";
        private static final int OWN_WORDS = 29;
        static final int WORD_PIT = 0;
        static final int WORD_AT = 1;
        static final int WORD_KIND = 2;
        static final int WORD_REST = 3;
        static final int WORD_GAS = 4;
        static final int WORD_ROW = 5;
        static final int WORD_HOUSE = 6;
        static final int WORD_MIX = 7;
        static final int WORD_MAY = 8;
        static final int WORD_WORTH = 9;
        static final int WORD_TILT = 10;
        static final int WORD_HOLDS = 11;
        static final int WORD_PROPS = 12;
        static final int WORD_LEANS = 13;
        private static final int WORD_DEPTH = 14;
        private static final int WORD_ACROSS = 15;
        private static final int WORD_NEAR = 16;
        private static final int WORD_SPAN = 17;
        private static final int WORD_OPEN = 18;
        private static final int WORD_FALLEN = 19;
        private static final int WORD_WHOLE = 20;
        private static final int WORD_NUMBER = 21;
        private static final int WORD_TUBS = 22;
        private static final int WORD_OR = 23;
        private static final int WORD_AND = 24;
        private static final int WORD_NOT = 25;
        private static final int WORD_ALL = 26;
        private static final int WORD_MIN = 27;
        private static final int WORD_MAX = 28;
        static final int WORD_FIRST = 29;
        static final int WORD_LAST = 30;
        static final int WORD_OFTEN = 31;
        static final int WORD_TOTAL = 32;
        static final int WORD_MOST = 33;
        static final int WORD_LEAST = 34;

        // Whose facts a formula may ask for.
        static final int OF_CELL = 0;
        static final int OF_HOUSE = 1;
        static final int OF_QUESTION = 2;

        private static final int IS_END = 0;
        private static final int IS_WORD = 1;
        private static final int IS_NUMBER = 2;
        private static final int IS_MARK = 3;
        // A word or number that follows another one without a blank: nothing goes on with it.
        private static final int IS_STUCK = 4;

        private Tape tape;
        private int[] code;
        private int[] name;
        private int size;
        private int subject;
        private int open;
        private int sort;
        private int start;
        private int stop;
        int fault;
        int place;

        Reader() {
            tape = new Tape(0);
            code = new int[0];
            name = new int[NAME_LETTERS];
            place = NONE;
        }

        /** Stands at the first word of the text; code goes into the row. */
        void begin(Tape text, int[] row) {
            tape = text;
            code = row;
            size = 0;
            open = 0;
            fault = 0;
            place = NONE;
            sort = IS_END;
            start = 0;
            stop = 0;
            step();
        }

        /** Always false, so that a reading method can end with it. */
        boolean fail(int what, int where) {
            fault = what;
            place = where;
            return false;
        }

        boolean failHere(int what) {
            fault = what;
            place = start;
            return false;
        }

        private static int sortOf(int sign) {
            if (sign == NONE) {
                return IS_END;
            }
            if (sign >= 'a' && sign <= 'z') {
                return IS_WORD;
            }
            return sign >= '0' && sign <= '9' ? IS_NUMBER : IS_MARK;
        }

        private static boolean isBlank(int sign) {
            return sign == 10 || sign == 32;
        }

        /** Goes on to the next word, number or mark. */
        void step() {
            boolean wasLong = sort == IS_WORD || sort == IS_NUMBER;
            int from = stop;
            for (int i = stop; i < tape.length() && isBlank(tape.at(i)); i++) {
                from = i + 1;
            }
            boolean touches = wasLong && from == stop;
            start = from;
            stop = from;
            sort = sortOf(tape.at(from));
            if (sort == IS_MARK) {
                stop = from + 1;
            }
            if (sort == IS_WORD || sort == IS_NUMBER) {
                for (int i = from; i < tape.length() && sortOf(tape.at(i)) == sort; i++) {
                    stop = i + 1;
                }
                sort = touches ? IS_STUCK : sort;
            }
        }

        boolean isEnd() {
            return sort == IS_END;
        }

        private boolean isMark(int sign) {
            return sort == IS_MARK && tape.at(start) == sign;
        }

        /** The number of the word that stands here; NONE when it is none of WORDS. */
        int wordHere() {
            if (sort != IS_WORD) {
                return NONE;
            }
            int number = 0;
            int same = 0;
            for (int i = 0; i < WORDS.length(); i++) {
                char sign = WORDS.charAt(i);
                if (sign == ' ') {
                    if (same == stop - start) {
                        return number;
                    }
                    number++;
                    same = 0;
                } else if (same != NONE && start + same < stop && tape.at(start + same) == sign) {
                    same++;
                } else {
                    same = NONE;
                }
            }
            return NONE;
        }

        boolean takeMark(int sign) {
            if (!isMark(sign)) {
                return failHere(1);
            }
            step();
            return true;
        }

        boolean takeWord(int word) {
            if (wordHere() != word) {
                return failHere(1);
            }
            step();
            return true;
        }

        /** NONE with a fault. */
        int takeNumber(int low, int high) {
            int value = numberHere();
            if (value == NONE) {
                return NONE;
            }
            if (value < low || value > high) {
                failHere(2);
                return NONE;
            }
            step();
            return value;
        }

        private int numberHere() {
            if (sort != IS_NUMBER) {
                failHere(1);
                return NONE;
            }
            if (stop - start > DIGITS) {
                fail(1, start + DIGITS);
                return NONE;
            }
            int value = 0;
            for (int i = start; i < stop; i++) {
                value = 10 * value + tape.at(i) - '0';
            }
            return value;
        }

        /** The name that stands here, as six letters with 0 behind it; null with a fault. */
        int[] nameHere() {
            if (sort != IS_WORD) {
                failHere(1);
                return null;
            }
            if (stop - start > NAME_LETTERS) {
                fail(1, start + NAME_LETTERS);
                return null;
            }
            int word = wordHere();
            if (word != NONE && word < OWN_WORDS) {
                failHere(1);
                return null;
            }
            for (int k = 0; k < name.length; k++) {
                name[k] = start + k < stop ? tape.at(start + k) - 'a' + 1 : 0;
            }
            return name;
        }

        /** How many letters stand here; 0 when it is no word. */
        int lettersHere() {
            return sort == IS_WORD ? stop - start : 0;
        }

        /** Letter k of the word that stands here. */
        int letterHere(int k) {
            return tape.at(start + k);
        }

        int codeSize() {
            return size;
        }

        private void emit(int op) {
            if (size < code.length) {
                code[size] = op;
                size++;
            }
        }

        /** Ahead of a formula: whose facts it may ask for. */
        void beginFormula(int whose) {
            subject = whose;
            open = 0;
        }

        /** Behind a formula; always true, so that a row of readings can end with it. */
        boolean endFormula() {
            emit(OP_STOP);
            return true;
        }

        /** One level more, here; with it the depth of the reading is bounded. */
        private boolean openOne() {
            if (open >= MOST_OPEN) {
                return failHere(4);
            }
            open++;
            return true;
        }

        private boolean closeOne() {
            open--;
            return true;
        }

        private boolean readTest() {
            boolean isRead = readBoth();
            for (int i = 0; i < MOST_BYTES && isRead && wordHere() == WORD_OR; i++) {
                step();
                isRead = readBoth();
                emit(OP_OR);
            }
            return isRead;
        }

        private boolean readBoth() {
            boolean isRead = readFact();
            for (int i = 0; i < MOST_BYTES && isRead && wordHere() == WORD_AND; i++) {
                step();
                isRead = readFact();
                emit(OP_AND);
            }
            return isRead;
        }

        private boolean readFact() {
            int word = wordHere();
            if (word == WORD_NOT) {
                return readNot();
            }
            if (isMark('[')) {
                return openOne() && takeMark('[') && readTest() && takeMark(']') && closeOne();
            }
            if (word == WORD_ALL) {
                emit(1);
                step();
                return true;
            }
            if (!readSum()) {
                return false;
            }
            int op = signHere();
            if (op == NONE) {
                return failHere(1);
            }
            step();
            boolean isRead = readSum();
            emit(op);
            return isRead;
        }

        private int signHere() {
            if (isMark('<')) {
                return OP_LESS;
            }
            if (isMark('>')) {
                return OP_MORE;
            }
            return isMark('=') ? OP_SAME : NONE;
        }

        private boolean readNot() {
            if (!openOne() || !takeWord(WORD_NOT) || !readFact()) {
                return false;
            }
            emit(OP_NOT);
            return closeOne();
        }

        private boolean readSum() {
            boolean isRead = readProduct();
            for (int i = 0; i < MOST_BYTES && isRead && (isMark('+') || isMark('-')); i++) {
                int op = isMark('+') ? OP_PLUS : OP_MINUS;
                step();
                isRead = readProduct();
                emit(op);
            }
            return isRead;
        }

        private boolean readProduct() {
            boolean isRead = readPart();
            for (int i = 0; i < MOST_BYTES && isRead && (isMark('*') || isMark('/')); i++) {
                int op = isMark('*') ? OP_TIMES : OP_OVER;
                step();
                isRead = readPart();
                emit(op);
            }
            return isRead;
        }

        private boolean readPart() {
            if (isMark('(')) {
                return openOne() && takeMark('(') && readSum() && takeMark(')') && closeOne();
            }
            int word = wordHere();
            if (word == WORD_MIN || word == WORD_MAX) {
                return readChoice(word);
            }
            if (word == WORD_TUBS && subject == OF_QUESTION) {
                return readTubs();
            }
            int op = sort == IS_NUMBER ? numberHere() : factFor(word);
            if (op == NONE) {
                return false;
            }
            emit(op);
            step();
            return true;
        }

        private boolean readChoice(int word) {
            step();
            if (!isMark('(')) {
                return failHere(1);
            }
            if (!openOne() || !takeMark('(') || !readSum() || !takeMark(',') || !readSum() || !takeMark(')')) {
                return false;
            }
            emit(word == WORD_MIN ? OP_MIN : OP_MAX);
            return closeOne();
        }

        private boolean readTubs() {
            if (!openOne() || !takeWord(WORD_TUBS) || !readPart()) {
                return false;
            }
            emit(OP_TUBS);
            return closeOne();
        }

        /** The code for a fact's word; NONE with a fault. */
        private int factFor(int word) {
            int fact = subject == OF_HOUSE ? houseFact(word) : cellFact(word);
            if (fact == NONE && subject == OF_QUESTION) {
                fact = questionFact(word);
            }
            if (fact == NONE) {
                failHere(1);
                return NONE;
            }
            return FIRST_FACT + fact;
        }

        private static int houseFact(int word) {
            switch (word) {
                case WORD_OPEN: return FACT_OPEN;
                case WORD_FALLEN: return FACT_FALLEN;
                case WORD_ACROSS: return FACT_ACROSS;
                default: return NONE;
            }
        }

        private static int cellFact(int word) {
            switch (word) {
                case WORD_DEPTH: return FACT_DEPTH;
                case WORD_ACROSS: return FACT_ACROSS;
                case WORD_REST: return FACT_REST;
                case WORD_GAS: return FACT_GAS;
                case WORD_NEAR: return FACT_NEAR;
                case WORD_SPAN: return FACT_SPAN;
                default: return NONE;
            }
        }

        private static int questionFact(int word) {
            switch (word) {
                case WORD_NUMBER: return FACT_NUMBER;
                case WORD_WHOLE: return FACT_WHOLE;
                case WORD_OPEN: return FACT_OPEN;
                case WORD_FALLEN: return FACT_FALLEN;
                default: return NONE;
            }
        }
    }

    /** Reads the text of a pit into a draft, statement by statement. */
    private static final class PlanReader {
        private final Reader reader;
        private final Plan draft;

        PlanReader(Reader reader, Plan draft) {
            this.reader = reader;
            this.draft = draft;
        }

        /** Whether the text is without a fault; the reader has the fault else. */
        boolean readPlan(Tape tape) {
            draft.clear();
            reader.begin(tape, draft.code);
            for (int i = 0; i < MOST_STATEMENTS && !reader.isEnd(); i++) {
                if (!readStatement() || !reader.takeMark(';')) {
                    return false;
                }
                draft.statements++;
            }
            if (!reader.isEnd()) {
                return reader.failHere(5);
            }
            return draft.statements > 0 || reader.failHere(1);
        }

        private boolean readStatement() {
            int word = reader.wordHere();
            if (draft.statements == 0) {
                return readPit();
            }
            switch (word) {
                case Reader.WORD_KIND: return readKind();
                case Reader.WORD_ROW: return readRow();
                case Reader.WORD_HOUSE: return readHouse();
                case Reader.WORD_MIX: return readMix();
                case Reader.WORD_MAY: return beginRule(MAY) && reader.readTest() && reader.endFormula();
                case Reader.WORD_WORTH: return beginRule(WORTH) && reader.readSum() && reader.endFormula();
                case Reader.WORD_TILT: return beginRule(TILT) && reader.readSum() && reader.endFormula();
                case Reader.WORD_HOLDS: return readSetting(HOLDS, 1, 8);
                case Reader.WORD_PROPS: return readSetting(PROPS, 0, 20);
                case Reader.WORD_LEANS: return readSetting(LEANS, 0, 999);
                default: return reader.failHere(1);
            }
        }

        private boolean readPit() {
            if (!reader.takeWord(Reader.WORD_PIT)) {
                return false;
            }
            int columns = reader.takeNumber(3, 8);
            if (columns == NONE || !reader.takeWord(Reader.WORD_AT)) {
                return false;
            }
            int shaft = reader.takeNumber(0, columns - 1);
            draft.columns = columns;
            draft.shaft = shaft;
            return shaft != NONE;
        }

        private boolean readKind() {
            if (draft.kinds >= MOST_KINDS || draft.rows > 0) {
                return reader.failHere(5);
            }
            reader.step();
            if (!giveName(draft.kindNames, draft.kinds) || !reader.takeWord(Reader.WORD_REST)) {
                return false;
            }
            int rest = reader.takeNumber(1, 99);
            if (rest == NONE || !reader.takeWord(Reader.WORD_GAS)) {
                return false;
            }
            int gas = reader.takeNumber(0, 99);
            if (gas == NONE) {
                return false;
            }
            draft.rest[draft.kinds] = rest;
            draft.gas[draft.kinds] = gas;
            draft.kinds++;
            return true;
        }

        /** Puts a name that is not there yet into its place of the names. */
        private boolean giveName(int[] names, int which) {
            int[] name = reader.nameHere();
            if (name == null) {
                return false;
            }
            if (draft.findName(draft.kindNames, draft.kinds, name) != NONE
                    || draft.findName(draft.houseNames, draft.houses, name) != NONE) {
                return reader.failHere(3);
            }
            int from = which * NAME_LETTERS;
            if (from >= 0 && from + NAME_LETTERS <= names.length) {
                System.arraycopy(name, 0, names, from, NAME_LETTERS);
            }
            reader.step();
            return true;
        }

        private boolean readRow() {
            if (draft.rows >= MOST_ROWS) {
                return reader.failHere(5);
            }
            reader.step();
            if (reader.lettersHere() != draft.columns) {
                return reader.failHere(1);
            }
            int from = draft.rows * draft.columns;
            for (int k = 0; k < draft.columns && from + k < MOST_CELLS; k++) {
                int told = toldBy(reader.letterHere(k));
                if (told == NONE) {
                    return reader.failHere(1);
                }
                draft.seam[from + k] = told;
            }
            draft.rows++;
            reader.step();
            return true;
        }

        /** Kind and 1, 0 of rock, NONE of a letter that is neither. */
        private int toldBy(int letter) {
            if (letter == 'x') {
                return 0;
            }
            int kind = letter - 'a';
            return kind >= 0 && kind < draft.kinds ? kind + 1 : NONE;
        }

        private boolean readHouse() {
            if (draft.houses >= MOST_HOUSES) {
                return reader.failHere(5);
            }
            reader.step();
            if (!giveName(draft.houseNames, draft.houses) || !reader.takeWord(Reader.WORD_AT)) {
                return false;
            }
            int column = reader.takeNumber(0, draft.columns - 1);
            if (column == NONE) {
                return false;
            }
            draft.houseColumns[draft.houses] = column;
            draft.houses++;
            return true;
        }

        private boolean readMix() {
            if (draft.mixes >= MOST_MIXES) {
                return reader.failHere(5);
            }
            reader.step();
            int first = kindHere();
            if (first == NONE) {
                return false;
            }
            reader.step();
            int second = kindHere();
            if (second == NONE) {
                return false;
            }
            if (first == second || (draft.foes[first] >> second & 1) != 0) {
                return reader.failHere(3);
            }
            draft.foes[first] |= 1 << second;
            draft.foes[second] |= 1 << first;
            draft.mixes++;
            reader.step();
            return true;
        }

        /** The kind whose name stands here; NONE with a fault. */
        private int kindHere() {
            int[] name = reader.nameHere();
            if (name == null) {
                return NONE;
            }
            int kind = draft.findName(draft.kindNames, draft.kinds, name);
            if (kind == NONE) {
                reader.failHere(3);
            }
            return kind;
        }

        private boolean beginRule(int which) {
            if (draft.formulas[which] != NONE) {
                return reader.failHere(5);
            }
            draft.formulas[which] = reader.codeSize();
            reader.beginFormula(which == TILT ? Reader.OF_HOUSE : Reader.OF_CELL);
            reader.step();
            return true;
        }

        private boolean readSetting(int which, int low, int high) {
            reader.step();
            int value = reader.takeNumber(low, high);
            if (value == NONE) {
                return false;
            }
            draft.settings[which] = value;
            return true;
        }
    }

    /** A question of all cells. */
    private static final class Question {
        private final Reader reader;
        private int head;

        Question(Reader reader) {
            this.reader = reader;
            head = NONE;
        }

        /** Whether the text is without a fault; the reader has the fault else. */
        boolean readQuestion(Tape tape, int[] code) {
            reader.begin(tape, code);
            head = reader.wordHere();
            if (head < Reader.WORD_FIRST) {
                return reader.failHere(1);
            }
            reader.beginFormula(Reader.OF_QUESTION);
            reader.step();
            boolean isRead = isOfTest() ? reader.readTest() : reader.readSum();
            if (!isRead || !reader.endFormula()) {
                return false;
            }
            return reader.isEnd() || reader.failHere(1);
        }

        private boolean isOfTest() {
            return head == Reader.WORD_FIRST || head == Reader.WORD_LAST || head == Reader.WORD_OFTEN;
        }

        long answer(Mine mine, int[] code) {
            boolean isPlace = head == Reader.WORD_FIRST || head == Reader.WORD_LAST;
            long answer = isPlace ? NONE : 0;
            for (int cell = 0; cell < mine.plan.cells; cell++) {
                mine.loadCell(cell);
                answer = goOn(answer, mine.value(code, 0), cell);
            }
            return answer;
        }

        /** The answer with one cell more. */
        private long goOn(long answer, int value, int cell) {
            switch (head) {
                case Reader.WORD_FIRST: return answer == NONE && value != 0 ? cell : answer;
                case Reader.WORD_LAST: return value != 0 ? cell : answer;
                case Reader.WORD_OFTEN:
                case Reader.WORD_TOTAL: return answer + value;
                case Reader.WORD_MOST: return cell == 0 ? value : Math.max(answer, value);
                case Reader.WORD_LEAST: return cell == 0 ? value : Math.min(answer, value);
                default: return answer;
            }
        }
    }
}
