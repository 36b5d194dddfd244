import java.util.Arrays;

/** The boundary sentences of the promises 1 to 30: what each call answers, refuses, and leaves as it is. */
final class CallBounds extends Words {
  private static final long NOTHING = Bench.NOTHING;
  private static final int MIN = Integer.MIN_VALUE, MAX = Integer.MAX_VALUE;
  private static final String SMALL = "pit 3 at 1;kind a rest 3 gas 0;kind b rest 5 gas 99;row aba;row bxa;";

  private CallBounds() { }

  static void run() {
    newObject();
    feed();
    end();
    pit();
    fault();
    has();
    letter();
    kind();
    cell();
    house();
    judge();
    judged();
    best();
    rivals();
    stores();
    cut();
    prop();
    burn();
    days();
    undo();
    seed();
    bores();
    fits();
    next();
    theft();
    ask();
    image();
    octet();
    on();
    status();
    manyCalls();
  }

  /** What is refused is counted there, once, and nowhere else. */
  private static void counted(String what, SundayPit x, int which, int times) {
    for (int i = 0; i < 6; i++) Bench.due(what + ": status(" + i + ")", x.status(i), i == which ? times : 0);
  }

  private static void newObject() {
    Bench.promise(1, "`SundayPit()`: No pit, no CELLS.");
    SundayPit x = new SundayPit();
    for (int i = 0; i < 14; i++) Bench.due("has(" + i + ")", x.has(i), i == 5 ? 3 : i == 6 ? 5 : 0);
    Bench.due("no CELL", x.cell(0, 1), NONE);
    Bench.due("no KIND", x.kind(0, 0), NONE);
    Bench.due("no HOUSE", x.house(0, 0), NONE);
    Bench.due("no pit for days", x.days(1), NONE);
    Bench.due("no pit for a question", Bench.ask(x, "often all"), NOTHING);
    Bench.due("the tape is empty", Bench.tape(x), 0);
    Bench.due("NONE", SundayPit.NONE, -1);
    Bench.due("NOTHING", SundayPit.NOTHING, -1000000000000000L);
    SundayPit y = Bench.told(SMALL);
    y.cut(1);
    Bench.due("another object has nothing of it", new SundayPit().has(0), 0);
  }

  private static void feed() {
    Bench.promise(2, "Twenty bytes come behind those on the tape, of each number the highest first: how many there are;");
    SundayPit x = new SundayPit();
    Bench.due("twenty", x.feed(0x70697420, 0x33206174, 0x20303b68, 0x6f6c6473, 0x20373b20), 20);
    Bench.due("the text 'pit 3 at 0;holds 7; '", x.pit(), 2);
    Bench.due("holds", x.has(5), 7);
    // An image of a pit with five KINDS and seven CELLS is just twenty bytes, so it tells each byte of one feed().
    SundayPit all = Bench.told("pit 7 at 0;" + FIVE + "row xxxxxxx;props 20;");
    int[] b = {19, 14, 253, 254, 13, 129, 130, 1, 2, 3, 4, 5, 1, 2, 3, 0, 3, 2, 1, 0};
    b[19] = Bench.guard(b, 19);
    int[] v = new int[5];
    for (int i = 0; i < 20; i++) v[i / 4] += b[i] << 24 - 8 * (i % 4);
    Bench.due("twenty", all.feed(v[0], v[1], v[2], v[3], v[4]), 20);
    Bench.yes("an image", all.on());
    int[] back = Bench.image(all);
    for (int i = 0; i < 20; i++) Bench.due("byte " + i, back[i], b[i]);
    Bench.due("worth", all.has(8), 14 * 65536 + 253 * 256 + 254);
    Bench.due("numbers below 0", all.feed(-1, Integer.MIN_VALUE, 0x80808080, -2, -256), 20);
    Bench.due("are bytes, too", all.pit(), NONE);
    Bench.due("none of them a blank", all.fault(1), 0);
    SundayPit behind = new SundayPit();
    behind.feed(0x70697420, 0x33206174, 0x20303b20, 0x20202020, 0x20202020);
    Bench.due("behind those on the tape", behind.feed(0x70726f70, 0x7320373b, 0x20202020, 0x20202020, 0x20202020), 40);
    Bench.due("both are read", behind.pit(), 2);
    Bench.due("props", behind.has(6), 7);
    Bench.promise(2, "NONE, refused (0), if there would be more than 1600.");
    SundayPit y = new SundayPit();
    for (int i = 1; i <= 80; i++) Bench.due("feed " + i, y.feed(0, 0, 0, 0, 0), 20 * i);
    counted("1600 are not too many", y, 0, 0);
    Bench.due("1620", y.feed(0, 0, 0, 0, 0), NONE);
    counted("refused", y, 0, 1);
    Bench.yes("all 1600 are there still", y.end(1600));
    y.end(1581);
    Bench.due("1601", y.feed(0, 0, 0, 0, 0), NONE);
    counted("refused", y, 0, 2);
    Bench.yes("nothing came", y.end(1581) && !y.end(1582));
    y.end(1580);
    Bench.due("just 1600", y.feed(0, 0, 0, 0, 0), 1600);
  }

  private static void end() {
    Bench.promise(3, "The tape has its first n bytes alone: true;");
    SundayPit x = new SundayPit();
    Bench.yes("an empty tape", x.end(0));
    Bench.put(x, "pit 3 at 0;holds 7;");
    Bench.yes("its first eleven", x.end(11));
    Bench.due("no more", x.pit(), 1);
    Bench.due("holds", x.has(5), 3);
    Bench.put(x, "pit 3 at 0;holds 7;");
    Bench.yes("all of them", x.end(19));
    Bench.due("as it was", x.pit(), 2);
    Bench.put(x, "pit");
    Bench.yes("none", x.end(0));
    Bench.due("empty", Bench.tape(x), 0);
    counted("nothing is refused", x, 0, 0);
    Bench.promise(3, "false, refused (0), if it has not so many, or n is below 0.");
    SundayPit y = new SundayPit();
    Bench.no("an empty tape has no byte", y.end(1));
    counted("refused", y, 0, 1);
    Bench.put(y, P3);
    int[] wrong = {12, 20, MAX, -1, MIN};
    for (int i = 0; i < wrong.length; i++) {
      Bench.no("end(" + wrong[i] + ")", y.end(wrong[i]));
      counted("end(" + wrong[i] + ")", y, 0, 2 + i);
    }
    Bench.due("the tape stays", y.pit(), 1);
  }

  private static void pit() {
    Bench.promise(4, "The tape (it goes) is THE PIT: how many STATEMENTS;");
    SundayPit x = new SundayPit();
    Bench.due("one", Bench.pit(x, P3), 1);
    Bench.due("the tape goes", Bench.tape(x), 0);
    Bench.due("five", Bench.pit(x, SMALL), 5);
    Bench.due("another PIT", x.has(0) * 100 + x.has(1) * 10 + x.has(2), 322);
    Bench.due("sixty", Bench.pit(x, P3 + "holds 1;".repeat(59)), 60);
    Bench.due("of 1600 bytes", Bench.pit(x, P3 + " ".repeat(1600 - 11 - 8) + "holds 1;"), 2);
    Bench.due("fewer CELLS than ahead of it", x.cell(0, 0), NONE);
    counted("nothing is refused", x, 0, 0);
    toldAgain();
    Bench.promise(4, "NONE, refused (1), with a FAULT (all stays;");
    SundayPit y = worked();
    for (String text : new String[] {"", "x", "pit 4 at 0;kind z rest 9 gas 9;row aaaa;house q at 3;mix z z;", "pit 8 at 8;", "pit 5 at 4;holds 8;props 20;leans 0;may not all;worth 9;tilt 9;?"}) {
      int before = y.status(1);
      Bench.due("pit of '" + text + "'", Bench.pit(y, text), NONE);
      Bench.due("refused", y.status(1), before + 1);
      Bench.due("the tape goes", Bench.tape(y), 0);
      stays("behind '" + text + "'", y);
    }
    counted("refused", y, 1, 5);
    SundayPit none = new SundayPit();
    Bench.due("no pit ahead", Bench.pit(none, "pit 3 at 0;?"), NONE);
    Bench.due("none behind", none.days(1), NONE);
    Bench.due("COLUMNS", none.has(0), 0);
    Bench.promise(4, "one without a STATEMENT has FAULT 1 at its length).");
    Bench.bad("^", 1);
    Bench.bad(" ^", 1);
    Bench.bad("\n\n \n^", 1);
    Bench.bad(" ".repeat(1600) + "^", 1);
    Bench.promise(4, "Without one all CELLS are WHOLE, STORE is empty, no BORES are told, nothing can be undone; the seed stays.");
    SundayPit z = worked();
    z.seed(4711);
    Bench.pit(z, SMALL);
    Bench.lie("WHOLE", z, "......");
    for (int i : new int[] {7, 8, 9, 10, 11, 13}) Bench.due("has(" + i + ")", z.has(i), 0);
    Bench.due("props as told", z.has(6), 5);
    Bench.due("no BORES", z.fits(0), 15);
    Bench.due("no judge()", z.judged(0), NONE);
    Bench.no("undo", z.undo());
    Bench.due("tubs", z.kind(0, 2) + z.kind(1, 2), 0);
    SundayPit same = Bench.told(SMALL);
    same.seed(4711);
    for (int i = 0; i < 5; i++) Bench.due("BLASTS by the same seed, day " + i, z.days(1), same.days(1));
    Bench.lie("the seed stays", z, Bench.cells(same));
  }

  /** One object is told one pit behind the other: nothing of an earlier one is left. */
  private static void toldAgain() {
    SundayPit x = new SundayPit();
    for (int i = 0; i < 3; i++) {
      Bench.due("as full as can be, " + i, Bench.pit(x, FULL), 30);
      for (int k = 0; k < 14; k++) Bench.due("as full as can be, has(" + k + ")", x.has(k), FULL_HAS[k]);
      Bench.due("as full as can be, MIXES of the last KIND", x.kind(4, 3), 15);
      if (i == 1) Bench.due("a FAULT lies between", Bench.pit(x, FULL + "?"), NONE);
    }
    Bench.due("BEST", x.best(1, NONE), 4);
    Bench.due("RIVALS", x.rivals(1, NONE), 4);
    Bench.due("a small one", Bench.pit(x, SMALL), 5);
    Bench.due("BEST of the small one", x.best(1, NONE), 5);
    Bench.due("RIVALS of the small one", x.rivals(1, NONE), 5);
    int[] small = {3, 2, 2, 0, 0, 3, 5, 0, 0, 0, 0, 0, 1, 0};
    for (int k = 0; k < 14; k++) Bench.due("a small one, has(" + k + ")", x.has(k), small[k]);
    Bench.due("no MIXES", x.kind(0, 3) + x.kind(1, 3), 0);
    Bench.due("no shaft of the full one", x.cell(1, 5), 0);
  }

  private static final String FULL = "pit 8 at 3;" + FIVE + "row abcdexxx;" + "row aaaaaaaa;".repeat(5)
      + "house f at 0;house g at 0;house h at 0;house i at 0;house j at 0;house klmnop at 0;" + TEN + "holds 8;props 20;";
  private static final int[] FULL_HAS = {8, 6, 5, 6, 10, 8, 20, 0, 0, 0, 0, 0, 1, 0};

  /** A pit with something of everything; stays() tells whether all is so still. */
  private static SundayPit worked() {
    SundayPit x = Bench.told(SMALL + "house inn at 2;mix a b;holds 1;props 4;leans 2;may across<9;worth rest+1;tilt open+7;");
    x.cut(1);
    x.prop(1);
    x.burn(1);
    x.cut(0);
    Bench.bores(x, 0, 0, 1);
    Bench.judge(x, 2, 4);
    x.image();
    return x;
  }

  private static void stays(String what, SundayPit x) {
    int[] has = {3, 2, 2, 1, 1, 1, 3, 1, 10, 5, 2, 0, 3, 4};
    for (int i = 0; i < has.length; i++) Bench.due(what + ": has(" + i + ")", x.has(i), has[i]);
    Bench.lie(what, x, "op....");
    int[] judged = {0, 4, 0};
    for (int i = 0; i < 3; i++) Bench.due(what + ": judged(" + i + ")", x.judged(i), judged[i]);
    Bench.due(what + ": BORES", x.fits(1), FITS);
    Bench.due(what + ": NAME", x.letter(0, 1, 0) * 100 + x.letter(1, 0, 0), 209);
    Bench.due(what + ": MIX", x.kind(0, 3) * 10 + x.kind(1, 3), 21);
    Bench.due(what + ": worth", x.cell(2, 6), 4);
    Bench.due(what + ": tilt", x.house(0, 1) * 10 + x.house(0, 2), 81);
    Bench.due(what + ": image", x.octet(0) * 1000 + x.octet(9) * 100 + x.octet(10), 3102);
  }
  /** Where the first KIND is told at COLUMN 0, ROW 0 by the pit SMALL. */
  private static final int FITS = 1 << 7 | 1 << 5 | 1;

  private static void fault() {
    Bench.promise(5, "Of the latest pit() or ask(): its FAULT (what 0; 0 without, and ahead of any), its place (1; NONE without).");
    SundayPit x = new SundayPit();
    faults("ahead of any", x, 0, NONE);
    Bench.pit(x, "pit 2");
    faults("of pit()", x, 2, 4);
    Bench.ask(x, "often");
    faults("ask() without a pit does nothing", x, 2, 4);
    Bench.pit(x, SMALL);
    faults("without", x, 0, NONE);
    Bench.ask(x, "often ?");
    faults("of ask()", x, 1, 6);
    Bench.judge(x, 99);
    Bench.bores(x, 99);
    Bench.on(x, 99);
    faults("other calls tell none", x, 1, 6);
    Bench.ask(x, "often all");
    faults("of a good ask()", x, 0, NONE);
    Bench.ask(x, "often (((((((");
    faults("4", x, 4, 12);
    Bench.pit(x, "");
    faults("at 0", x, 1, 0);
    Bench.pit(x, SMALL + "mix a a;");
    faults("3", x, 3, SMALL.length() + 6);
    Bench.pit(x, SMALL + "kind");
    faults("5", x, 5, SMALL.length());
    Bench.pit(x, SMALL);
    faults("of a good pit()", x, 0, NONE);
    Bench.promise(5, "NONE for another what.");
    for (int what : new int[] {2, -1, MAX, MIN}) Bench.due("fault(" + what + ")", x.fault(what), NONE);
  }

  private static void faults(String what, SundayPit x, int sort, int place) {
    Bench.due(what + ": fault(0)", x.fault(0), sort);
    Bench.due(what + ": fault(1)", x.fault(1), place);
  }

  private static void has() {
    Bench.promise(6, "How many there are: 0 COLUMNS, 1 ROWS, 2 KINDS, 3 HOUSES, 4 MIXES, 5 holds, 6 props left, 7 tubs in STORE, 8 worth of all that were cut, 9 rest had, 10 OPEN CELLS, 11 FALLEN ones, 12 CELLS that CAN BE CUT, 13 ACTS that can be undone.");
    SundayPit x = Bench.told(FULL);
    for (int i = 0; i < 14; i++) Bench.due("as full as can be, has(" + i + ")", x.has(i), FULL_HAS[i]);
    SundayPit y = Bench.told(SMALL + "holds 1;worth 10;");
    y.cut(1);
    y.prop(1);
    y.cut(0);
    y.cut(2);
    y.burn(0);
    int[] then = {3, 2, 2, 0, 0, 1, 4, 2, 30, 3, 3, 0, 3, 5};
    for (int i = 0; i < 14; i++) Bench.due("has(" + i + ")", y.has(i), then[i]);
    y.cut(4);
    y.cut(3);
    int[] fell = {3, 2, 2, 0, 0, 1, 4, 3, 40, 3, 3, 2, 1, 7};
    for (int i = 0; i < 14; i++) Bench.due("with FALLEN ones, has(" + i + ")", y.has(i), fell[i]);
    y.days(3);
    Bench.due("days are one ACT", y.has(13), 8);
    Bench.promise(6, "NONE for others.");
    for (int what : new int[] {-1, 14, 15, MAX, MIN}) Bench.due("has(" + what + ")", y.has(what), NONE);
  }

  private static void letter() {
    Bench.promise(7, "Letter k (0 .. 5) of the NAME of a KIND (kind 0), a HOUSE (1): 1 .. 26; 0 behind it;");
    SundayPit x = Bench.told(P3 + "kind azbycx rest 1 gas 0;kind m rest 1 gas 0;house zz at 0;house abcdef at 1;");
    String[][] names = {{"azbycx", "m"}, {"zz", "abcdef"}};
    for (int kind = 0; kind < 2; kind++)
      for (int which = 0; which < 2; which++)
        for (int k = 0; k < 6; k++) {
          String n = names[kind][which];
          Bench.due("letter(" + kind + ", " + which + ", " + k + ")", x.letter(kind, which, k), k < n.length() ? n.charAt(k) - 'a' + 1 : 0);
        }
    SundayPit full = Bench.told(FULL);
    for (int i = 0; i < 5; i++) {
      Bench.due("KIND " + i, full.letter(0, i, 0), 1 + i);
      Bench.due("HOUSE " + i, full.letter(1, i, 0), 6 + i);
    }
    for (int k = 0; k < 6; k++) Bench.due("the sixth HOUSE, letter " + k, full.letter(1, 5, k), 11 + k);
    Bench.promise(7, "NONE when there is none such.");
    Bench.due("no sixth KIND", full.letter(0, 5, 0), NONE);
    Bench.due("no seventh HOUSE", full.letter(1, 6, 0), NONE);
    int[][] none = {{0, 0, 6}, {0, 0, -1}, {0, 0, MAX}, {0, 0, MIN}, {0, 2, 0}, {0, -1, 0}, {0, MAX, 0}, {0, MIN, 0}, {1, 2, 0}, {1, -1, 0},
        {1, 0, 6}, {2, 0, 0}, {-1, 0, 0}, {MAX, 0, 0}, {MIN, 0, 0}};
    for (int[] n : none) Bench.due("letter(" + n[0] + ", " + n[1] + ", " + n[2] + ")", x.letter(n[0], n[1], n[2]), NONE);
    Bench.pit(x, P3 + "kind q rest 1 gas 0;");
    Bench.due("the NAMES of an earlier PIT are gone", x.letter(0, 1, 0), NONE);
    Bench.due("HOUSES, too", x.letter(1, 0, 0), NONE);
    Bench.due("q", x.letter(0, 0, 0) * 100 + x.letter(0, 0, 1), 1700);
    Bench.due("without a pit", new SundayPit().letter(0, 0, 0), NONE);
  }

  private static void kind() {
    Bench.promise(8, "Of a KIND: 0 rest, 1 gas, 2 tubs in STORE, 3 KINDS it must not meet, as bits, 4 how many CELLS are of it, 5 how many of these are WHOLE.");
    SundayPit x = Bench.told(P3 + "kind a rest 1 gas 99;kind b rest 99 gas 0;kind c rest 7 gas 7;row aab;row bbx;holds 1;mix c a;mix a b;");
    x.cut(0);
    x.prop(0);
    x.cut(1);
    int[][] want = {{1, 99, 2, 6, 2, 0}, {99, 0, 0, 1, 3, 3}, {7, 7, 0, 1, 0, 0}};
    for (int k = 0; k < 3; k++) for (int i = 0; i < 6; i++) Bench.due("kind(" + k + ", " + i + ")", x.kind(k, i), want[k][i]);
    x.cut(2);
    Bench.due("FALLEN ones are not WHOLE", x.has(11), 2);
    Bench.due("of the second KIND", x.kind(1, 4) * 10 + x.kind(1, 5), 32);
    Bench.due("of the first KIND", x.kind(0, 4) * 10 + x.kind(0, 5), 20);
    Bench.promise(8, "NONE when there is none such, or for others.");
    int[][] none = {{3, 0}, {-1, 0}, {MAX, 0}, {MIN, 0}, {0, 6}, {0, -1}, {0, MAX}, {0, MIN}, {3, 9}};
    for (int[] n : none) Bench.due("kind(" + n[0] + ", " + n[1] + ")", x.kind(n[0], n[1]), NONE);
    Bench.due("a fifth", Bench.told(P3 + FIVE).kind(4, 0), 5);
    Bench.due("no sixth", Bench.told(P3 + FIVE).kind(5, 0), NONE);
    Bench.due("without KINDS", Bench.told(P3).kind(0, 0), NONE);
  }

  private static void cell() {
    Bench.promise(9, "Of a CELL: 0 its KIND (NONE of rock), 1 what it is (0 WHOLE, 1 cut, 2 propped, 3 FALLEN), 2 how many OPEN ones are beside it, 3 its SPAN, 4 whether it is REACHED, 5 why it can't be CUT (0 when it CAN), 6 what its tub would be worth now.");
    SundayPit x = Bench.worked("pit 4 at 1;kind a rest 6 gas 0;row xaax;row aaaa;may across<3;worth 10*near+span;", "oo.p" + ".p#.");
    int[][] want = {{NONE, 1, 1, 2, 1, 1, 0}, {0, 1, 2, 2, 1, 1, 22}, {0, 0, 2, 3, 0, 0, 23}, {NONE, 2, 0, 1, 0, 1, 0},
        {0, 0, 2, 1, 0, 0, 21}, {0, 2, 1, 1, 1, 1, 11}, {0, 3, 1, 1, 0, 1, 11}, {0, 0, 1, 1, 0, 2, 11}};
    for (int c = 0; c < 8; c++) for (int i = 0; i < 7; i++) Bench.due("cell(" + c + ", " + i + ")", x.cell(c, i), want[c][i]);
    SundayPit may = Bench.worked("pit 4 at 1;row xxxx;may across<2;", "oo..");
    Bench.due("may not", may.cell(2, 5), 3);
    Bench.promise(9, "NONE when there is none such, or for others.");
    int[][] none = {{8, 0}, {8, 1}, {-1, 0}, {-1, 1}, {MAX, 1}, {MIN, 1}, {0, 7}, {0, -1}, {0, MAX}, {0, MIN}};
    for (int[] n : none) Bench.due("cell(" + n[0] + ", " + n[1] + ")", x.cell(n[0], n[1]), NONE);
    for (int i = 0; i < 7; i++) Bench.due("without CELLS, cell(0, " + i + ")", Bench.told(P3).cell(0, i), NONE);
    SundayPit less = Bench.told("pit 8 at 0;" + "row xxxxxxxx;".repeat(6));
    Bench.pit(less, P3 + "row xxx;");
    Bench.due("CELLS of an earlier PIT are gone", less.cell(3, 1), NONE);
  }

  private static void house() {
    Bench.promise(10, "Of a HOUSE: 0 its COLUMN, 1 by how much it TILTS, 2 whether it LEANS.");
    SundayPit x = Bench.worked("pit 4 at 1;row xxxx;house f at 0;house g at 3;leans 2;", "oop#");
    int[][] want = {{0, 2, 0}, {3, 3, 1}};
    for (int h = 0; h < 2; h++) for (int i = 0; i < 3; i++) Bench.due("house(" + h + ", " + i + ")", x.house(h, i), want[h][i]);
    Bench.promise(10, "NONE when there is none such, or for others.");
    int[][] none = {{2, 0}, {-1, 0}, {MAX, 0}, {MIN, 0}, {0, 3}, {0, -1}, {0, MAX}, {0, MIN}};
    for (int[] n : none) Bench.due("house(" + n[0] + ", " + n[1] + ")", x.house(n[0], n[1]), NONE);
    for (int i = 0; i < 3; i++) Bench.due("without HOUSES", Bench.told(P3).house(0, i), NONE);
    Bench.pit(x, P3);
    Bench.due("HOUSES of an earlier PIT are gone", x.house(0, 0), NONE);
  }

  private static void judge() {
    Bench.promise(11, "The tape (it goes) is AN ORDER, a byte each, 48 at most: how many could be cut;");
    SundayPit x = Bench.told("pit 8 at 0;" + "row xxxxxxxx;".repeat(6) + "holds 8;");
    int[] all = new int[48];
    for (int i = 0; i < 48; i++) all[i] = i;
    Bench.due("48, all of them", Bench.judge(x, all), 48);
    Bench.due("the tape goes", Bench.tape(x), 0);
    Bench.due("48, one of them", Bench.judge(x, new int[48]), 1);
    Bench.due("one", Bench.judge(x, 0), 1);
    Bench.due("none on the tape", Bench.judge(x), 0);
    Bench.due("the last CELL", Bench.judge(x, 47), 0);
    Bench.lie("nothing is changed", x, ".".repeat(48));
    counted("nothing is refused", x, 0, 0);
    Bench.promise(11, "NONE, refused (1), when it is none such (a CELL that is none).");
    SundayPit y = Bench.told(SMALL);
    int[][] wrong = {{6}, {255}, {128}, {1, 6}, {1, 0, 2, 3, 99}, new int[49], new int[100]};
    for (int i = 0; i < wrong.length; i++) {
      Bench.due("an order of " + wrong[i].length, Bench.judge(y, wrong[i]), NONE);
      counted("refused", y, 1, i + 1);
      Bench.due("the tape goes", Bench.tape(y), 0);
    }
    SundayPit none = new SundayPit();
    Bench.due("no CELL without a pit", Bench.judge(none, 0), NONE);
    Bench.due("no CELL without ROWS", Bench.judge(Bench.told(P3), 0), NONE);
  }

  private static void judged() {
    Bench.promise(12, "Of the latest judge() of this PIT: 0 why the next one can't be (0 without one), 1 worth of all its tubs, 2 how many CELLS fell.");
    SundayPit x = Bench.told(SMALL + "holds 1;may across<2;");
    verdict("all", x, 2, new int[] {1, 4}, 0, 5, 0);
    verdict("one fell with another", x, 3, new int[] {1, 4, 3}, 0, 10, 2);
    verdict("not WHOLE", x, 1, new int[] {1, 1}, 1, 5, 0);
    verdict("not beside", x, 1, new int[] {1, 5}, 2, 5, 0);
    verdict("may not", x, 1, new int[] {1, 2}, 3, 5, 0);
    verdict("none", x, 0, new int[] {}, 0, 0, 0);
    verdict("not the first", x, 0, new int[] {0}, 2, 0, 0);
    Bench.judge(x, 99);
    Bench.due("a refused one is none", x.judged(0) * 10 + x.judged(1), 20);
    x.cut(1);
    x.undo();
    x.image();
    Bench.due("acts change nothing of it", x.judged(0), 2);
    Bench.yes("an image", Bench.on(x, Bench.image(x)));
    Bench.due("nor does an image", x.judged(0), 2);
    Bench.promise(12, "NONE ahead of any, or for others.");
    for (int what : new int[] {3, -1, MAX, MIN}) Bench.due("judged(" + what + ")", x.judged(what), NONE);
    Bench.pit(x, SMALL);
    for (int i = 0; i < 3; i++) Bench.due("of another PIT, judged(" + i + ")", x.judged(i), NONE);
    Bench.judge(x, 99);
    Bench.due("ahead of any that is one", x.judged(0), NONE);
    for (int i = 0; i < 3; i++) Bench.due("a new object, judged(" + i + ")", new SundayPit().judged(i), NONE);
  }

  private static void verdict(String what, SundayPit x, int count, int[] order, int why, int worth, int fell) {
    Bench.due(what, Bench.judge(x, order), count);
    Bench.due(what + ": why", x.judged(0), why);
    Bench.due(what + ": worth", x.judged(1), worth);
    Bench.due(what + ": fell", x.judged(2), fell);
  }

  private static void best() {
    Bench.promise(13, "BEST n (1 .. 3): worth (k NONE), the k-th CELL, how many there are (20).");
    SundayPit x = Bench.told(SMALL);
    int[][] want = {{5, 1, 1}, {8, 2, 1, 0}, {13, 3, 1, 0, 3}};
    for (int n = 1; n <= 3; n++) {
      Bench.due("worth of " + n, x.best(n, NONE), want[n - 1][0]);
      Bench.due("how many of " + n, x.best(n, 20), want[n - 1][1]);
      for (int k = 0; k < n; k++) Bench.due("CELL " + k + " of " + n, x.best(n, k), want[n - 1][2 + k]);
    }
    x.cut(1);
    Bench.due("as it is now", x.best(1, NONE), 3);
    x.undo();
    Bench.due("as it is now", x.best(1, NONE), 5);
    x.days(1);
    Bench.yes("as it is now", x.best(1, 0) != 1);
    Bench.promise(13, "NONE when none can be cut so, n can't be, or for others.");
    SundayPit none = Bench.told("pit 3 at 0;row xxx;may not all;");
    for (int n = 1; n <= 3; n++) for (int k : new int[] {NONE, 0, 20}) Bench.due("none can be cut", none.best(n, k), NONE);
    SundayPit y = Bench.told(SMALL);
    for (int n : new int[] {0, 4, -1, MAX, MIN}) for (int k : new int[] {NONE, 0, 20}) Bench.due("best(" + n + ", " + k + ")", y.best(n, k), NONE);
    for (int k : new int[] {3, 4, 19, 21, -2, MAX, MIN}) Bench.due("best(3, " + k + ")", y.best(3, k), NONE);
    Bench.due("best(2, 2)", y.best(2, 2), NONE);
    Bench.due("best(1, 1)", y.best(1, 1), NONE);
    Bench.due("without a pit", new SundayPit().best(1, 20), NONE);
    Bench.due("without CELLS", Bench.told(P3).best(3, NONE), NONE);
  }

  private static void rivals() {
    Bench.promise(14, "RIVALS, n turns (0 .. 3): worth of the first one's tubs less the other one's (k NONE), the CELL of turn k (100: it is over).");
    SundayPit x = Bench.told("pit 3 at 1;kind a rest 3 gas 0;kind b rest 5 gas 0;row axx;row bxx;may across=0 or depth=0;holds 8;");
    x.cut(1);
    x.cut(2);
    long[][] want = {{0}, {3, 0}, {-2, 0, 3}, {-2, 0, 3, 100}};
    for (int n = 0; n <= 3; n++) {
      Bench.due("worth of " + n, x.rivals(n, NONE), want[n][0]);
      for (int k = 0; k < n; k++) Bench.due("turn " + k + " of " + n, x.rivals(n, k), want[n][1 + k]);
    }
    x.cut(0);
    Bench.due("as it is now", x.rivals(1, NONE), 5);
    Bench.due("no turns", x.rivals(0, NONE), 0);
    Bench.due("one", x.rivals(1, NONE), 5);
    x.undo();
    Bench.due("no turns", x.rivals(0, NONE), 0);
    Bench.due("as it is now", x.rivals(1, NONE), 3);
    Bench.due("without a pit", new SundayPit().rivals(3, 2), 100);
    Bench.promise(14, "NOTHING for others.");
    long[][] no = {{-1, NONE}, {4, NONE}, {MAX, NONE}, {MIN, NONE}, {4, 0}, {-1, 0}, {0, 0}, {1, 1}, {2, 2}, {3, 3}, {3, 20}, {3, 100}, {3, -2}, {3, MIN}, {3, MAX}};
    for (long[] n : no) Bench.due("rivals(" + n[0] + ", " + n[1] + ")", x.rivals((int) n[0], (int) n[1]), NOTHING);
  }

  private static void stores() {
    Bench.promise(15, "STORES: how many (k NONE), the STORE of KIND k.");
    SundayPit x = Bench.told(P3 + FIVE + "mix a b;mix b c;mix a c;");
    Bench.due("three", x.stores(NONE), 3);
    int[] want = {0, 1, 2, 0, 0};
    for (int k = 0; k < 5; k++) Bench.due("stores(" + k + ")", x.stores(k), want[k]);
    Bench.due("no pit", new SundayPit().stores(NONE), 0);
    Bench.promise(15, "NONE when there is none such.");
    for (int k : new int[] {5, 6, -2, MAX, MIN}) Bench.due("stores(" + k + ")", x.stores(k), NONE);
    SundayPit two = Bench.told(SMALL);
    Bench.due("no third KIND", two.stores(2), NONE);
    Bench.due("no KIND", Bench.told(P3).stores(0), NONE);
    Bench.due("no pit", new SundayPit().stores(0), NONE);
  }

  private static void cut() {
    Bench.promise(16, "A CELL is CUT: what its tub is worth;");
    SundayPit x = Bench.told(SMALL + "holds 1;worth 100*rest;");
    Bench.due("worth", x.cut(1), 500);
    Bench.lie("cut", x, ".o....");
    Bench.due("rock", x.cut(4), 0);
    Bench.due("one that falls", x.cut(3), 500);
    Bench.lie("it fell", x, ".o.##.");
    counted("nothing is refused", x, 0, 0);
    Bench.promise(16, "NONE, refused (2), when it can't be.");
    SundayPit y = Bench.told(SMALL + "holds 8;may across<2;");
    int[] wrong = {0, 2, 3, 4, 5, 6, -1, 48, MAX, MIN};
    for (int i = 0; i < wrong.length; i++) {
      Bench.due("cut(" + wrong[i] + ")", y.cut(wrong[i]), NONE);
      counted("cut(" + wrong[i] + ")", y, 2, i + 1);
    }
    y.cut(1);
    Bench.due("not WHOLE", y.cut(1), NONE);
    Bench.due("may not", y.cut(2), NONE);
    counted("refused", y, 2, 12);
    Bench.lie("nothing else is cut", y, ".o....");
    Bench.due("no ACTS", y.has(13), 1);
    SundayPit none = new SundayPit();
    Bench.due("without a pit", none.cut(0), NONE);
    counted("without a pit", none, 2, 1);
  }

  private static void prop() {
    Bench.promise(17, "A CELL is PROPPED: true;");
    SundayPit x = Bench.told(SMALL + "props 1;");
    x.cut(1);
    Bench.yes("prop", x.prop(1));
    Bench.lie("propped", x, ".p....");
    Bench.due("props left", x.has(6), 0);
    counted("nothing is refused", x, 0, 0);
    Bench.promise(17, "false, refused (2), when it can't be.");
    x.cut(0);
    Bench.no("no props left", x.prop(0));
    counted("no props left", x, 2, 1);
    SundayPit y = Bench.worked(SMALL, ".op#..");
    int[] wrong = {0, 2, 3, 6, -1, 48, MAX, MIN};
    for (int i = 0; i < wrong.length; i++) {
      Bench.no("prop(" + wrong[i] + ")", y.prop(wrong[i]));
      counted("prop(" + wrong[i] + ")", y, 2, i + 1);
    }
    Bench.lie("as it was", y, ".op#..");
    Bench.due("props", y.has(6), 5);
    Bench.due("no ACTS", y.has(13), 0);
    Bench.no("without a pit", new SundayPit().prop(0));
  }

  private static void burn() {
    Bench.promise(18, "A tub of a KIND is BURNT: true;");
    SundayPit x = Bench.told(SMALL);
    x.cut(1);
    x.cut(0);
    Bench.yes("burn", x.burn(1));
    Bench.due("one less", x.kind(1, 2), 0);
    Bench.due("the other KIND's stays", x.kind(0, 2), 1);
    Bench.due("rest", x.has(9), 5);
    counted("nothing is refused", x, 0, 0);
    Bench.promise(18, "false, refused (2), when there is none.");
    int[] wrong = {1, 2, -1, 5, MAX, MIN};
    for (int i = 0; i < wrong.length; i++) {
      Bench.no("burn(" + wrong[i] + ")", x.burn(wrong[i]));
      counted("burn(" + wrong[i] + ")", x, 2, i + 1);
    }
    Bench.due("rest", x.has(9), 5);
    Bench.due("ACTS", x.has(13), 3);
    Bench.due("tubs", x.has(7), 1);
    Bench.no("no sixth KIND", Bench.told(FULL).burn(5));
    Bench.no("the fifth has none", Bench.told(FULL).burn(4));
    Bench.no("without a pit", new SundayPit().burn(0));
  }

  private static void days() {
    Bench.promise(19, "n DAYS by the seed (1 .. 30), one ACT: how many BLASTS there were;");
    String wide = "pit 8 at 0;kind a rest 1 gas 50;" + "row aaaaaaaa;".repeat(6) + "holds 8;";
    int all = 0;
    for (int seed = 0; seed < 12; seed++) {
      SundayPit x = Bench.told(wide), y = Bench.told(wide);
      x.seed(seed);
      y.seed(seed);
      int blasts = 0;
      for (int i = 0; i < 30; i++) blasts += y.days(1);
      Bench.due("30 days, seed " + seed, x.days(30), blasts);
      Bench.lie("the same, seed " + seed, x, Bench.cells(y));
      Bench.due("one ACT", x.has(13), 1);
      all += blasts;
    }
    Bench.yes("there were some", all > 0);
    SundayPit calm = Bench.told("pit 8 at 0;" + "row xxxxxxxx;".repeat(6) + "holds 8;");
    Bench.due("one day", calm.days(1), 0);
    Bench.due("one CELL", calm.has(10), 1);
    Bench.due("30 days", calm.days(30), 0);
    Bench.due("30 CELLS more", calm.has(10), 31);
    Bench.due("two ACTS", calm.has(13), 2);
    Bench.due("without CELLS", Bench.told(P3).days(30), 0);
    counted("nothing is refused", calm, 0, 0);
    Bench.promise(19, "NONE, refused (3), when n can't be, or there is no pit.");
    int[] wrong = {0, 31, -1, MAX, MIN};
    for (int i = 0; i < wrong.length; i++) {
      Bench.due("days(" + wrong[i] + ")", calm.days(wrong[i]), NONE);
      counted("days(" + wrong[i] + ")", calm, 3, i + 1);
    }
    Bench.due("nothing is cut", calm.has(10), 31);
    Bench.due("no ACTS", calm.has(13), 2);
    SundayPit none = new SundayPit();
    Bench.due("no pit", none.days(1), NONE);
    counted("no pit", none, 3, 1);
    Bench.pit(none, "pit 9");
    Bench.due("no pit still", none.days(1), NONE);
    SundayPit other = Bench.told(wide), same = Bench.told(wide);
    other.days(0);
    other.days(31);
    other.days(4);
    same.days(4);
    Bench.lie("no DRAWS are made by what is refused", other, Bench.cells(same));
  }

  private static void undo() {
    Bench.promise(20, "The latest ACT is undone (the seed stays): true;");
    SundayPit x = Bench.told(SMALL + "holds 1;");
    x.cut(1);
    x.prop(1);
    x.burn(1);
    x.cut(0);
    x.cut(3);
    x.cut(4);
    Bench.lie("all done", x, "op.##.");
    Bench.yes("a cut by which two fell", x.undo());
    Bench.lie("a cut by which two fell", x, "op.o..");
    Bench.due("tubs and worth", x.has(7) * 100 + x.has(8), 213);
    x.undo();
    x.undo();
    Bench.due("rest had", x.has(9), 5);
    Bench.yes("a tub", x.undo());
    Bench.due("rest had", x.has(9), 0);
    Bench.due("tubs", x.has(7), 1);
    Bench.yes("a prop", x.undo());
    Bench.lie("a prop", x, ".o....");
    Bench.due("props", x.has(6), 5);
    Bench.yes("the first", x.undo());
    Bench.lie("the first", x, "......");
    Bench.due("worth", x.has(8), 0);
    counted("nothing is refused", x, 0, 0);
    String wide = "pit 8 at 0;kind a rest 1 gas 0;" + "row aaaaaaaa;".repeat(3) + "holds 8;";
    SundayPit y = Bench.told(wide), z = Bench.told(wide);
    y.days(9);
    y.undo();
    Bench.lie("days are undone as one", y, ".".repeat(24));
    long seed = 1;
    for (int i = 0; i < 18; i++) seed = (1103515245L * seed + 12345) % (1L << 31);
    z.seed((int) seed);
    y.days(5);
    z.days(5);
    Bench.lie("the seed stays", y, Bench.cells(z));
    Bench.promise(20, "false, refused (4), when none can be.");
    Bench.no("none is left", x.undo());
    counted("none is left", x, 4, 1);
    SundayPit none = new SundayPit();
    Bench.no("a new object", none.undo());
    counted("a new object", none, 4, 1);
    SundayPit again = Bench.told(SMALL);
    again.cut(1);
    Bench.pit(again, SMALL);
    Bench.no("behind a new PIT", again.undo());
    again.cut(1);
    Bench.on(again, Bench.image(again));
    Bench.no("behind an image", again.undo());
    counted("both", again, 4, 2);
    Bench.lie("as it was", again, ".o....");
  }

  private static void seed() {
    Bench.promise(21, "The seed: true;");
    String wide = "pit 8 at 0;" + "row xxxxxxxx;".repeat(3) + "holds 8;";
    SundayPit x = Bench.told(wide);
    for (int s : new int[] {0, 1, MAX}) Bench.yes("seed(" + s + ")", x.seed(s));
    counted("nothing is refused", x, 0, 0);
    x.seed(3);
    x.days(9);
    SundayPit y = new SundayPit();
    Bench.yes("ahead of a pit, too", y.seed(3));
    Bench.pit(y, wide);
    y.days(9);
    Bench.lie("the same seed", y, Bench.cells(x));
    SundayPit z = Bench.told(wide);
    z.seed(4);
    z.days(9);
    Bench.no("another seed", Bench.cells(z).equals(Bench.cells(x)));
    Bench.promise(21, "false, refused (5), when it is below 0.");
    SundayPit below = Bench.told(wide);
    below.seed(3);
    Bench.no("-1", below.seed(-1));
    counted("-1", below, 5, 1);
    Bench.no("the least", below.seed(MIN));
    counted("the least", below, 5, 2);
    below.days(9);
    Bench.lie("the seed stays", below, Bench.cells(x));
    Bench.promise(21, "(It is 1 at first.)");
    SundayPit first = Bench.told(wide), one = Bench.told(wide);
    one.seed(1);
    first.days(9);
    one.days(9);
    Bench.lie("1", first, Bench.cells(one));
  }

  private static void bores() {
    Bench.promise(22, "The tape (it goes) tells BORES: 1 to 20 rows of three bytes, COLUMN, ROW, KIND and 1 (0 rock): how many rows;");
    SundayPit x = Bench.told(SMALL);
    Bench.due("one", Bench.bores(x, 2, 1, 1), 1);
    Bench.due("the tape goes", Bench.tape(x), 0);
    Bench.due("the last of each", Bench.bores(x, 2, 1, 2), 1);
    Bench.due("the first of each", Bench.bores(x, 0, 0, 0), 1);
    Bench.due("twenty", Bench.bores(x, new int[60]), 20);
    int[] twenty = new int[60];
    twenty[59] = 1;
    Bench.due("the twentieth counts", Bench.bores(x, twenty), 20);
    Bench.due("it is against the others", x.fits(0), 0);
    Bench.due("those told last are the BORES", Bench.bores(x, 0, 0, 1), 1);
    Bench.due("FITS", x.fits(1), FITS);
    counted("nothing is refused", x, 0, 0);
    Bench.promise(22, "NONE, refused (1), all staying, when it is none such.");
    int[][] wrong = {{}, {0}, {0, 0}, {0, 0, 0, 0}, {3, 0, 0}, {0, 2, 0}, {0, 0, 3}, {255, 0, 0}, {0, 255, 0}, {0, 0, 255}, {0, 0, 0, 0, 0, 3}, new int[63], new int[61]};
    for (int i = 0; i < wrong.length; i++) {
      Bench.due("row of bytes " + i, Bench.bores(x, wrong[i]), NONE);
      counted("row of bytes " + i, x, 1, i + 1);
      Bench.due("all staying", x.fits(1), FITS);
      Bench.due("the tape goes", Bench.tape(x), 0);
    }
    SundayPit none = new SundayPit();
    Bench.due("without a pit", Bench.bores(none, 0, 0, 0), NONE);
    counted("without a pit", none, 1, 1);
    Bench.due("without ROWS", Bench.bores(Bench.told(P3), 0, 0, 0), NONE);
  }

  private static void fits() {
    Bench.promise(23, "FITS by BORES (all 15 without): how many shifts (what 0), these as bits (1; bit 5 times (ROWS and 1) and COLUMNS and 2), the first by bits (2; NONE without).");
    SundayPit x = Bench.told(SMALL);
    fitsAre("without BORES", x, 15, 32767, 0);
    Bench.bores(x, 0, 0, 1);
    fitsAre("three", x, 3, FITS, 0);
    Bench.bores(x, 0, 0, 1, 1, 0, 2);
    fitsAre("one", x, 1, 1 << 7, 7);
    Bench.bores(x, 0, 0, 1, 0, 0, 2);
    fitsAre("none", x, 0, 0, NONE);
    fitsAre("without a pit", new SundayPit(), 15, 32767, 0);
    SundayPit far = Bench.told("pit 8 at 0;kind a rest 1 gas 0;row xxxxxxxx;row xxxaxxxx;row xxxxxxxx;");
    Bench.bores(far, 5, 2, 1);
    fitsAre("two to the right, one below", far, 1, 1 << 14, 14);
    Bench.bores(far, 1, 0, 1);
    fitsAre("two to the left, one above", far, 1, 1, 0);
    Bench.promise(23, "NONE for others.");
    for (int what : new int[] {3, -1, MAX, MIN}) Bench.due("fits(" + what + ")", x.fits(what), NONE);
  }

  private static void fitsAre(String what, SundayPit x, int count, int bits, int first) {
    Bench.due(what + ": how many", x.fits(0), count);
    Bench.due(what + ": bits", x.fits(1), bits);
    Bench.due(what + ": the first", x.fits(2), first);
  }

  private static void next() {
    Bench.promise(24, "NEXT to bore: the CELL (what 0), how many FITS tell it alike at the most (1).");
    SundayPit x = Bench.told(SMALL);
    Bench.bores(x, 0, 0, 1);
    Bench.due("the CELL that tells three apart", x.next(0), 3);
    Bench.due("one each", x.next(1), 1);
    Bench.bores(x, 0, 0, 1, 1, 0, 2);
    Bench.due("one FIT: the first CELL", x.next(0), 0);
    Bench.due("one FIT", x.next(1), 1);
    Bench.promise(24, "NONE without FITS or CELLS, or for others.");
    for (int what : new int[] {2, -1, MAX, MIN}) Bench.due("next(" + what + ")", x.next(what), NONE);
    Bench.bores(x, 0, 0, 1, 0, 0, 2);
    for (int what = 0; what < 2; what++) {
      Bench.due("without FITS", x.next(what), NONE);
      Bench.due("without CELLS", Bench.told(P3).next(what), NONE);
      Bench.due("without a pit", new SundayPit().next(what), NONE);
    }
  }

  private static void theft() {
    Bench.promise(25, "THEFT of so much rest (0 and on): how many sets (what 0), 10 and k: the fewest tubs of KIND k in one of them.");
    SundayPit x = Bench.told("pit 6 at 0;kind a rest 2 gas 0;kind b rest 3 gas 0;kind c rest 5 gas 0;row aaabbc;holds 8;");
    for (int c = 0; c < 6; c++) x.cut(c);
    int[][] want = {{0, 1, 0, 0, 0}, {2, 1, 1, 0, 0}, {3, 1, 0, 1, 0}, {5, 2, 0, 0, 0}, {4, 1, 2, 0, 0}, {17, 1, 3, 2, 1}, {15, 1, 2, 2, 1}, {7, 2, 1, 0, 0}, {14, 1, 3, 1, 1}};
    for (int[] w : want) {
      Bench.due("sets of " + w[0], x.theft(w[0], 0), w[1]);
      for (int k = 0; k < 3; k++) Bench.due("fewest of KIND " + k + " for " + w[0], x.theft(w[0], 10 + k), w[2 + k]);
    }
    Bench.promise(25, "NONE when n is below 0, for others, and without a set for 10 and k.");
    for (int n : new int[] {-1, MIN}) for (int what : new int[] {0, 10, 11, 12}) Bench.due("theft(" + n + ", " + what + ")", x.theft(n, what), NONE);
    for (int what : new int[] {1, 9, 13, 14, -1, MAX, MIN}) Bench.due("theft(5, " + what + ")", x.theft(5, what), NONE);
    for (int n : new int[] {1, 16, 18, MAX}) {
      Bench.due("no set of " + n, x.theft(n, 0), 0);
      for (int k = 0; k < 3; k++) Bench.due("no set of " + n + ", KIND " + k, x.theft(n, 10 + k), NONE);
    }
    Bench.due("without a pit", new SundayPit().theft(0, 0), 1);
    Bench.due("without a pit", new SundayPit().theft(0, 10), NONE);
    Bench.due("without a pit", new SundayPit().theft(1, 0), 0);
    Bench.due("the fifth KIND", Bench.told(P3 + FIVE).theft(0, 14), 0);
    Bench.due("no sixth", Bench.told(P3 + FIVE).theft(0, 15), NONE);
  }

  private static void ask() {
    Bench.promise(26, "The tape (it goes) is a QUESTION: its answer;");
    SundayPit x = worked();
    Bench.answers(x, "total rest", 19);
    Bench.due("the tape goes", Bench.tape(x), 0);
    Bench.answers(x, "least 0-1", -1);
    Bench.answers(x, "often " + " ".repeat(1590) + "all", 6);
    stays("a question changes nothing", x);
    SundayPit z = worked();
    Bench.promise(26, "NONE of first, last, when its TEST holds for none;");
    Bench.answers(z, "first rest=99", NONE);
    Bench.answers(z, "last rest=99", NONE);
    Bench.answers(z, "first number=0", 0);
    Bench.answers(z, "last number=0", 0);
    Bench.promise(26, "NOTHING with a FAULT, or, doing nothing else, without a pit.");
    for (String text : new String[] {"", "often", "total (((((((1", "total 1;"}) {
      Bench.due("ask() of '" + text + "'", Bench.ask(z, text), NOTHING);
      Bench.yes("a FAULT", z.fault(0) > 0);
      Bench.due("the tape goes", Bench.tape(z), 0);
    }
    counted("it is not refused", z, 0, 0);
    stays("behind a FAULT", z);
    SundayPit y = new SundayPit();
    Bench.due("without a pit", Bench.ask(y, "often all"), NOTHING);
    faults("no FAULT", y, 0, NONE);
    Bench.pit(y, "pit 9");
    Bench.due("without a pit", Bench.ask(y, "often"), NOTHING);
    faults("as it was", y, 2, 4);
    counted("but for that pit()", y, 1, 1);
  }

  private static void image() {
    Bench.promise(27, "AN IMAGE is written: how many bytes.");
    Bench.due("without a pit", new SundayPit().image(), 8);
    Bench.due("without KINDS, CELLS", Bench.told(P3).image(), 8);
    Bench.due("two KINDS, six CELLS", Bench.told(SMALL).image(), 16);
    SundayPit full = Bench.told("pit 8 at 0;" + FIVE + "row abcdexxx;".repeat(6));
    Bench.due("five KINDS, 48 CELLS", full.image(), 61);
    Bench.due("the last byte", full.octet(60), Bench.guard(Bench.image(full), 60));
    SundayPit x = worked();
    int[] want = {3, 0, 0, 10, 0, 0, 5, 1, 0, 1, 2, 0, 0, 0, 0, 0};
    int[] got = Bench.image(x);
    for (int i = 0; i < 15; i++) Bench.due("byte " + i, got[i], want[i]);
    Bench.due("the last", got[15], Bench.guard(want, 15));
    stays("an image changes nothing", x);
  }

  private static void octet() {
    Bench.promise(28, "Byte k of the latest image();");
    SundayPit x = Bench.told(SMALL);
    x.image();
    x.cut(1);
    Bench.due("not of what is now", x.octet(10), 0);
    x.image();
    Bench.due("of the latest", x.octet(10), 1);
    Bench.pit(x, P3 + "props 9;");
    Bench.due("a new PIT writes none", x.octet(10), 1);
    x.image();
    Bench.due("the first byte", x.octet(0), 9);
    Bench.promise(28, "NONE when there is none such.");
    for (int k : new int[] {8, 10, 15, 16, -1, MAX, MIN}) Bench.due("octet(" + k + ") of 8", x.octet(k), NONE);
    Bench.due("the last of 8", x.octet(7), (223 * 2187 + 9 * 729) % 251);
    Bench.due("ahead of any", new SundayPit().octet(0), NONE);
    Bench.due("ahead of any, with a pit", Bench.told(SMALL).octet(0), NONE);
    SundayPit full = Bench.told("pit 8 at 0;" + FIVE + "row abcdexxx;".repeat(6));
    full.image();
    Bench.yes("the 61st", full.octet(60) != NONE);
    Bench.due("no 62nd", full.octet(61), NONE);
  }

  private static void on() {
    Bench.promise(29, "The tape (it goes) is AN IMAGE of this PIT: true, all is as it tells, nothing can be undone;");
    SundayPit x = worked();
    int[] b = Bench.image(x);
    SundayPit y = Bench.told(SMALL + "house inn at 2;mix a b;holds 1;props 4;leans 2;may across<9;worth rest+1;tilt open+7;");
    y.cut(1);
    x.seed(9);
    y.seed(9);
    Bench.due("BEST ahead of it: but rock all would fall", y.best(1, NONE), 0);
    Bench.due("RIVALS ahead of it", y.rivals(1, NONE), 4);
    Bench.yes("on", Bench.on(y, b));
    Bench.due("the tape goes", Bench.tape(y), 0);
    Bench.no("nothing can be undone", y.undo());
    int[] has = {3, 2, 2, 1, 1, 1, 3, 1, 10, 5, 2, 0, 3, 0};
    for (int i = 0; i < 14; i++) Bench.due("as it tells: has(" + i + ")", y.has(i), has[i]);
    Bench.lie("as it tells", y, "op....");
    Bench.due("tubs of each", y.kind(0, 2) * 10 + y.kind(1, 2), 10);
    Bench.due("BEST as it tells", y.best(1, NONE), 6);
    Bench.due("RIVALS as it tells", y.rivals(1, NONE), 6);
    Bench.due("the seed is none of it", sameDays(x, y), 1);
    SundayPit bare = Bench.told(P3);
    Bench.yes("of a PIT without CELLS", Bench.on(bare, Bench.image(bare)));
    String most = "op#.o".repeat(10).substring(0, 48);
    SundayPit full = Bench.worked(FULL, most);
    Bench.lie("48 CELLS", full, most);
    Bench.due("OPEN and FALLEN ones", full.has(10) * 100 + full.has(11), 2910);
    onLimits(b);
    Bench.promise(29, "or there is no pit, all staying.");
    SundayPit none = new SundayPit();
    Bench.no("no pit", Bench.on(none, Bench.image(none)));
    counted("no pit", none, 5, 1);
    Bench.due("the tape goes", Bench.tape(none), 0);
  }

  private static int sameDays(SundayPit x, SundayPit y) {
    x.days(4);
    y.days(4);
    return Bench.cells(x).equals(Bench.cells(y)) ? 1 : 0;
  }

  private static int[] three(int[] image, int at, int value) {
    return Bench.with(Bench.with(Bench.with(image, at, value >> 16), at + 1, value >> 8 & 255), at + 2, value & 255);
  }

  private static void onLimits(int[] b) {
    Bench.promise(29, "false, refused (5), when it is none (props no more than told, worth, rest 999999, tubs of a KIND 20, CELLS 3 at most),");
    SundayPit good = worked();
    int[][] right = {Bench.with(b, 0, 4), Bench.with(b, 0, 0), three(b, 1, 999999), three(b, 4, 999999), three(b, 1, 0), three(b, 4, 0),
        Bench.with(b, 7, 20), Bench.with(b, 8, 20), Bench.with(b, 9, 3), Bench.with(b, 14, 3), Bench.with(b, 14, 2)};
    for (int i = 0; i < right.length; i++) Bench.yes("at most, " + i, Bench.on(good, right[i]));
    counted("nothing is refused", good, 0, 0);
    SundayPit x = worked();
    int[] sum = b.clone();
    sum[15] = (b[15] + 1) % 251;
    int[][] wrong = {Bench.with(b, 0, 5), Bench.with(b, 0, 255), three(b, 1, 1000000), three(b, 1, 0xffffff), three(b, 4, 1000000), three(b, 4, 0xffffff),
        Bench.with(b, 7, 21), Bench.with(b, 8, 21), Bench.with(b, 8, 255), Bench.with(b, 9, 4), Bench.with(b, 14, 4), Bench.with(b, 14, 255),
        sum, {}, {223}, Bench.with(Arrays.copyOf(b, 15), 0, 3), Bench.with(Arrays.copyOf(b, 17), 0, 3)};
    for (int i = 0; i < wrong.length; i++) {
      Bench.no("wrong, " + i, Bench.on(x, wrong[i]));
      Bench.due("refused", x.status(5), i + 1);
      Bench.due("the tape goes", Bench.tape(x), 0);
    }
    counted("refused", x, 5, wrong.length);
    stays("all staying", x);
    SundayPit other = Bench.told(P3);
    Bench.no("an image of another PIT", Bench.on(other, b));
    SundayPit less = Bench.told(SMALL + "props 2;");
    Bench.no("more props than told", Bench.on(less, b));
    Bench.yes("as many as told, though fewer are left", propsBack());
    SundayPit many = Bench.told("pit 8 at 0;kind a rest 1 gas 0;" + "row aaaaaaaa;".repeat(3) + "holds 8;");
    for (int c = 0; c < 20; c++) many.cut(c);
    Bench.yes("20 tubs", Bench.on(many, Bench.image(many)));
    many.cut(20);
    Bench.no("21 tubs, though it was written here", Bench.on(many, Bench.image(many)));
    Bench.due("all staying", many.has(13), 1);
  }

  private static boolean propsBack() {
    SundayPit x = Bench.told(SMALL + "props 1;");
    int[] b = Bench.image(x);
    x.cut(1);
    x.prop(1);
    return Bench.on(x, b) && x.has(6) == 1;
  }

  private static void status() {
    Bench.promise(30, "How many were refused: 0 feed(), end(); 1 pit(), judge(), bores(); 2 cut(), prop(), burn(); 3 days(); 4 undo(); 5 seed(), on().");
    SundayPit x = new SundayPit();
    int[] want = new int[6];
    for (int i = 0; i < 14; i++) {
      int which = refuseOne(x, i);
      if (which != NONE) want[which]++;
      for (int k = 0; k < 6; k++) Bench.due("behind call " + i + ", status(" + k + ")", x.status(k), want[k]);
    }
    Bench.pit(x, SMALL);
    x.cut(1);
    x.undo();
    for (int k = 0; k < 6; k++) Bench.due("a new PIT and calls that are not refused, status(" + k + ")", x.status(k), want[k]);
    Bench.promise(30, "NONE for others.");
    for (int what : new int[] {6, -1, MAX, MIN}) Bench.due("status(" + what + ")", x.status(what), NONE);
  }

  /** A call that is refused (on an object without a pit), and where it counts; NONE of calls that refuse nothing. */
  private static int refuseOne(SundayPit x, int call) {
    switch (call) {
      case 0: x.end(1); return 0;
      case 1: for (int i = 0; i < 80; i++) x.feed(0, 0, 0, 0, 0); return NONE;
      case 2: x.feed(0, 0, 0, 0, 0); return 0;
      case 3: x.pit(); return 1;
      case 4: x.feed(0, 0, 0, 0, 0); x.judge(); return 1;
      case 5: x.bores(); return 1;
      case 6: x.cut(0); return 2;
      case 7: x.prop(0); return 2;
      case 8: x.burn(0); return 2;
      case 9: x.days(1); return 3;
      case 10: x.undo(); return 4;
      case 11: x.seed(-1); return 5;
      case 12: x.on(); return 5;
      default:
        x.ask();
        x.best(9, 9);
        x.rivals(9, 9);
        x.theft(-1, 0);
        x.octet(0);
        x.cell(0, 0);
        x.stores(9);
        x.fits(9);
        x.next(9);
        return NONE;
    }
  }

  private static void manyCalls() {
    Bench.says("What it is", "An object is used for at most 512 calls after it has been made;");
    SundayPit x = new SundayPit();
    for (int i = 0; i < 511; i++) x.undo();
    Bench.due("the 512th call", x.status(4), 511);
    SundayPit y = Bench.told("pit 3 at 0;kind a rest 1 gas 0;row aaa;");
    y.cut(0);
    for (int i = 0; i < 250; i++) {
      y.burn(0);
      y.undo();
    }
    Bench.due("behind 250 acts undone", y.has(13), 1);
    Bench.yes("the first is undone, too", y.undo());
    Bench.no("no more", y.undo());
    SundayPit z = Bench.told("pit 3 at 0;kind a rest 1 gas 0;row aaa;");
    for (int i = 0; i < 500; i++) z.days(30);
    Bench.due("behind 500 ACTS", z.has(13), 20);
  }
}
