import java.nio.charset.StandardCharsets;

/** For each promise of the document: ordinary inputs, the edges that it names, and wrong inputs. */
public final class PromiseTests {
  private static final int NONE = -1;
  private static final long NOTHING = -1000000000000000L;
  private static int wrong = 0;
  private static int checks = 0;
  private static String promise = "";

  private static void due(String what, long got, long want) {
    checks++;
    if (got != want) {
      wrong++;
      System.out.println(promise + ": " + what + " answered " + got + ", due is " + want);
    }
  }
  private static void due(String what, boolean got, boolean want) { due(what, got ? 1 : 0, want ? 1 : 0); }

  // ---- helpers: a text or bytes onto the tape, and the call that takes it

  private static void put(SundayPit x, byte[] b) {
    x.end(0);
    for (int i = 0; i < b.length; i += 20) {
      int[] v = new int[5];
      for (int k = 0; k < 20; k++) v[k / 4] = v[k / 4] << 8 | (i + k < b.length ? b[i + k] & 255 : 0);
      x.feed(v[0], v[1], v[2], v[3], v[4]);
    }
    x.end(b.length);
  }
  private static void put(SundayPit x, String text) { put(x, text.getBytes(StandardCharsets.ISO_8859_1)); }
  private static void put(SundayPit x, int... bytes) {
    byte[] b = new byte[bytes.length];
    for (int i = 0; i < b.length; i++) b[i] = (byte) bytes[i];
    put(x, b);
  }
  private static int pit(SundayPit x, String text) { put(x, text); return x.pit(); }
  private static long ask(SundayPit x, String text) { put(x, text); return x.ask(); }
  private static int judge(SundayPit x, int... cells) { put(x, cells); return x.judge(); }
  private static int bores(SundayPit x, int... rows) { put(x, rows); return x.bores(); }
  private static boolean on(SundayPit x, int... bytes) { put(x, bytes); return x.on(); }
  private static SundayPit told(String text) {
    SundayPit x = new SundayPit();
    if (pit(x, text) == NONE) due("pit of " + text + " has fault " + x.fault(0) + " at " + x.fault(1) + ";", 0, 1);
    return x;
  }
  /** A pit with this fault at this place; the pit ahead of it stays. */
  private static void faulty(String text, int sort, int place) {
    SundayPit x = told("pit 5 at 2;row xxxxx;");
    due("pit '" + text + "'", pit(x, text), NONE);
    due("fault(0) of '" + text + "'", x.fault(0), sort);
    due("fault(1) of '" + text + "'", x.fault(1), place);
    due("COLUMNS after '" + text + "'", x.has(0), 5);
    due("status(1) after '" + text + "'", x.status(1), 1);
  }
  private static void good(String text, int statements) {
    SundayPit x = new SundayPit();
    due("pit '" + text + "'", pit(x, text), statements);
    due("fault(0) of '" + text + "'", x.fault(0), 0);
    due("fault(1) of '" + text + "'", x.fault(1), NONE);
  }
  private static void badAsk(String text, int sort, int place) {
    SundayPit x = told(SMALL);
    due("ask '" + text + "'", ask(x, text), NOTHING);
    due("fault(0) of '" + text + "'", x.fault(0), sort);
    due("fault(1) of '" + text + "'", x.fault(1), place);
  }

  private static final String SMALL = "pit 3 at 1;kind a rest 3 gas 0;kind b rest 5 gas 99;row aba;row bxa;";
  /** Nothing falls here, and a kind's tubs are worth their rest. */
  private static final String WIDE = "pit 8 at 0;kind a rest 2 gas 0;row aaaaaaaa;row aaaaaaaa;row aaaaaaaa;row aaaaaaaa;holds 8;";

  private static String times(String text, int n) { return text.repeat(n); }

  // ---- the promises

  private static void p1() {
    promise = "promise 1";
    SundayPit x = new SundayPit();
    for (int i = 0; i < 14; i++) due("has(" + i + ")", x.has(i), i == 5 ? 3 : i == 6 ? 5 : 0);
    due("cell", x.cell(0, 1), NONE);
    due("days", x.days(1), NONE);
    due("NONE", SundayPit.NONE, -1);
    due("NOTHING", SundayPit.NOTHING, NOTHING);
  }

  private static void p2and3() {
    promise = "promise 2";
    SundayPit x = new SundayPit();
    for (int i = 1; i <= 80; i++) due("feed " + i, x.feed(0, 0, 0, 0, 0), 20 * i);
    due("feed beyond 1600", x.feed(0, 0, 0, 0, 0), NONE);
    due("status(0)", x.status(0), 1);
    promise = "promise 3";
    due("end(1581)", x.end(1581), true);
    due("feed to 1601", x.feed(0, 0, 0, 0, 0), NONE);
    due("end(1582)", x.end(1582), false);
    due("end(-1)", x.end(-1), false);
    due("end(min)", x.end(Integer.MIN_VALUE), false);
    due("end(max)", x.end(Integer.MAX_VALUE), false);
    due("end(1581)", x.end(1581), true);
    due("end(1580)", x.end(1580), true);
    due("feed to 1600", x.feed(0, 0, 0, 0, 0), 1600);
    due("status(0)", x.status(0), 6);
    due("end(0)", x.end(0), true);
    promise = "promise 2";
    due("feed", x.feed(0x70697420, 0x33206174, 0x20313b30, 0, -1), 20);
    due("end", x.end(11), true);
    due("the highest byte first", x.pit(), 1);
  }

  private static void p4texts() {
    promise = "promise 4 and 5, good texts";
    good("pit 3 at 0;", 1);
    good("pit 8 at 7;", 1);
    good("\n pit\n3  at 2 ;\n\n", 1);
    good("pit 0003 at 0000;", 1);
    good("pit 3 at 0;row xxx;row xxx;row xxx;row xxx;row xxx;row xxx;", 7);
    good("pit 3 at 0;kind a rest 1 gas 0;kind b rest 99 gas 99;kind c rest 1 gas 0;kind d rest 1 gas 0;kind e rest 1 gas 0;row ace;row bdx;", 8);
    good("pit 3 at 0;kind x rest 1 gas 0;kind first rest 1 gas 0;kind abcdef rest 1 gas 0;", 4);
    good("pit 3 at 0;" + times("holds 8;", 59), 60);
    good("pit 3 at 0;" + times("holds 8;", 59) + " \n", 60);
    good("pit 3 at 0;house a at 0;house b at 1;house c at 2;house d at 0;house e at 0;house f at 0;", 7);
    good("pit 3 at 0;holds 1;holds 8;props 0;props 20;leans 0;leans 999;", 7);
    good("pit 3 at 0;may not not not not not not all;", 2);
    good("pit 3 at 0;may [[[[[[all]]]]]]and[[[[[[all]]]]]];", 2);
    good("pit 3 at 0;worth((((((1))))))+((((((9999))))));", 2);
    good("pit 3 at 0;worth min(min(min(min(min(min(1,2),3),4),5),6),7);tilt max(open,fallen)*across;", 3);
    good("pit 3 at 0;may depth+across-rest*gas/near<span or 1=2 and 3>4 or not all;", 2);
    SundayPit all = told("pit 3 at 0;kind a rest 1 gas 0;kind b rest 1 gas 0;kind c rest 1 gas 0;kind d rest 1 gas 0;kind e rest 1 gas 0;"
        + "mix a b;mix a c;mix a d;mix a e;mix b c;mix b d;mix b e;mix c d;mix c e;mix d e;");
    due("MIXES", all.has(4), 10);
    SundayPit last = told("pit 3 at 0;holds 1;holds 7;holds 2;props 1;props 9;");
    due("the last holds", last.has(5), 2);
    due("the last props", last.has(6), 9);
  }

  private static void p4faultOne() {
    promise = "promise 5, FAULT 1";
    faulty("", 1, 0);
    faulty(" \n ", 1, 3);
    faulty("x;", 1, 0);
    faulty(";", 1, 0);
    faulty("row xxx;", 1, 0);
    faulty("pitt 3 at 0;", 1, 0);
    faulty("pi", 1, 0);
    faulty("Pit 3 at 0;", 1, 0);
    faulty("pit", 1, 3);
    faulty("pit ", 1, 4);
    faulty("pit x", 1, 4);
    faulty("pit3 at 0;", 1, 3);
    faulty("pit 3at 0;", 1, 5);
    faulty("pit 3 at0;", 1, 8);
    faulty("pit 3 of 0;", 1, 6);
    faulty("pit 3 at 0", 1, 10);
    faulty("pit 3 at 0 0;", 1, 11);
    faulty("pit 3 at 0;;", 1, 11);
    faulty("pit 3 at 0;pit 3 at 0;", 1, 11);
    faulty("pit 3 at 0;first;", 1, 11);
    faulty("pit\t3 at 0;", 1, 3);
    faulty("pit 12345 at 0;", 1, 8);
    faulty("pit 00003 at 0;", 1, 8);
    faulty("pit 3 at 00000;", 1, 13);
    faulty("pit 3 at 0;kind 5", 1, 16);
    faulty("pit 3 at 0;kind", 1, 15);
    faulty("pit 3 at 0;kind rest rest 1 gas 0;", 1, 16);
    faulty("pit 3 at 0;kind fallen rest 1 gas 0;", 1, 16);
    faulty("pit 3 at 0;kind fallenx rest 1 gas 0;", 1, 22);
    faulty("pit 3 at 0;kind aB rest 1 gas 0;", 1, 17);
    faulty("pit 3 at 0;kind a1 rest 1 gas 0;", 1, 17);
    faulty("pit 3 at 0;kind a gas 1;", 1, 18);
    faulty("pit 3 at 0;kind a rest 1 rest", 1, 25);
    faulty("pit 3 at 0;row xx;", 1, 15);
    faulty("pit 3 at 0;row xxxx;", 1, 15);
    faulty("pit 3 at 0;row xxa;", 1, 15);
    faulty("pit 3 at 0;row x xx;", 1, 15);
    faulty("pit 3 at 0;row xxx1;", 1, 18);
    faulty("pit 3 at 0;row", 1, 14);
    faulty("pit 3 at 0;row 111;", 1, 15);
    faulty("pit 3 at 0;kind a rest 1 gas 0;row xab;", 1, 35);
    faulty("pit 3 at 0;house worth at 0;", 1, 17);
    faulty("pit 3 at 0;house abcdefgh at 0;", 1, 23);
    faulty("pit 3 at 0;mix at a;", 1, 15);
    faulty("pit 3 at 0;kind a rest 1 gas 0;mix a abcdefg;", 1, 43);
    faulty("pit 3 at 0;holds;", 1, 16);
    faulty("pit 3 at 0;holds 1 2;", 1, 19);
    faulty("pit 3 at 0;may;", 1, 14);
    faulty("pit 3 at 0;may 1;", 1, 16);
    faulty("pit 3 at 0;may 1<2<3;", 1, 18);
    faulty("pit 3 at 0;may 1<;", 1, 17);
    faulty("pit 3 at 0;may all all;", 1, 19);
    faulty("pit 3 at 0;may (all);", 1, 16);
    faulty("pit 3 at 0;may [1];", 1, 17);
    faulty("pit 3 at 0;may [all;", 1, 19);
    faulty("pit 3 at 0;may all or;", 1, 21);
    faulty("pit 3 at 0;may 1=1and all;", 1, 18);
    faulty("pit 3 at 0;may not;", 1, 18);
    faulty("pit 3 at 0;worth -1;", 1, 17);
    faulty("pit 3 at 0;worth 1=1;", 1, 18);
    faulty("pit 3 at 0;worth 12345;", 1, 21);
    faulty("pit 3 at 0;worth 1+;", 1, 19);
    faulty("pit 3 at 0;worth 2depth;", 1, 18);
    faulty("pit 3 at 0;worth (1;", 1, 19);
    faulty("pit 3 at 0;worth min 1;", 1, 21);
    faulty("pit 3 at 0;worth min(1);", 1, 22);
    faulty("pit 3 at 0;worth max(1,2,3);", 1, 24);
    faulty("pit 3 at 0;worth open;", 1, 17);
    faulty("pit 3 at 0;worth number;", 1, 17);
    faulty("pit 3 at 0;worth tubs 1;", 1, 17);
    faulty("pit 3 at 0;worth whole;", 1, 17);
    faulty("pit 3 at 0;tilt depth;", 1, 16);
    faulty("pit 3 at 0;tilt not all;", 1, 16);
    faulty("pit 3 at 0;tilt open", 1, 20);
  }

  private static void p4otherFaults() {
    promise = "promise 5, FAULT 2";
    faulty("pit 2 at 0;", 2, 4);
    faulty("pit 9 at 0;", 2, 4);
    faulty("pit 9999 at 0;", 2, 4);
    faulty("pit 3 at 3;", 2, 9);
    faulty("pit 8 at 8;", 2, 9);
    faulty("pit 3 at 0;kind a rest 0 gas 0;", 2, 23);
    faulty("pit 3 at 0;kind a rest 100 gas 0;", 2, 23);
    faulty("pit 3 at 0;kind a rest 1 gas 100;", 2, 29);
    faulty("pit 3 at 0;house a at 3;", 2, 22);
    faulty("pit 3 at 0;holds 0;", 2, 17);
    faulty("pit 3 at 0;holds 9;", 2, 17);
    faulty("pit 3 at 0;props 21;", 2, 17);
    faulty("pit 3 at 0;leans 1000;", 2, 17);
    promise = "promise 5, FAULT 3";
    String two = "pit 3 at 0;kind a rest 1 gas 0;kind b rest 1 gas 0;";
    int n = two.length();
    faulty(two + "kind b rest 1 gas 0;", 3, n + 5);
    faulty(two + "house a at 0;", 3, n + 6);
    faulty(two + "house h at 0;house h at 1;", 3, n + 19);
    faulty(two + "house h at 0;kind h rest 1 gas 0;", 3, n + 18);
    faulty(two + "mix c a;", 3, n + 4);
    faulty(two + "mix a c;", 3, n + 6);
    faulty(two + "house h at 0;mix a h;", 3, n + 19);
    faulty(two + "mix a a;", 3, n + 6);
    faulty(two + "mix a b;mix a b;", 3, n + 14);
    faulty(two + "mix a b;mix b a;", 3, n + 14);
    faulty(two + "mix a a", 3, n + 6);
    promise = "promise 5, FAULT 4";
    faulty("pit 3 at 0;may not not not not not not not all;", 4, 39);
    faulty("pit 3 at 0;may [[[[[[[all]]]]]]];", 4, 21);
    faulty("pit 3 at 0;worth (((((((1)))))));", 4, 23);
    faulty("pit 3 at 0;worth min(min(min(min(min(min(min(1,2),3),4),5),6),7),8);", 4, 44);
    faulty("pit 3 at 0;may [not[not[not(1)=1]]];", 4, 27);
    good("pit 3 at 0;may [not[not[not 1=1]]];", 2);
    good("pit 3 at 0;may not not not not not not all and not not not not not not all;", 2);
    faulty("pit 3 at 0;may [[[[[[all]]]]]] or not [[[[[[all]]]]]];", 4, 43);
    promise = "promise 5, FAULT 5";
    String five = two + "kind c rest 1 gas 0;kind d rest 1 gas 0;kind e rest 1 gas 0;";
    faulty(five + "kind f", 5, five.length());
    faulty("pit 3 at 0;row xxx; kind a rest 1 gas 0;", 5, 20);
    String six = "pit 3 at 0;" + times("row xxx;", 6);
    faulty(six + "row xxx;", 5, six.length());
    String houses = "pit 3 at 0;house a at 0;house b at 1;house c at 2;house d at 0;house e at 0;house f at 0;";
    faulty(houses + "house", 5, houses.length());
    String mixes = five + "mix a b;mix a c;mix a d;mix a e;mix b c;mix b d;mix b e;mix c d;mix c e;mix d e;";
    faulty(mixes + "mix a b;", 5, mixes.length());
    faulty("pit 3 at 0;may all;may all;", 5, 19);
    faulty("pit 3 at 0;worth 1;worth 1;", 5, 19);
    faulty("pit 3 at 0;tilt 1;tilt 1;", 5, 18);
    String sixty = "pit 3 at 0;" + times("props 5;", 59);
    faulty(sixty + "props 5;", 5, sixty.length());
    faulty(sixty + " \n?", 5, sixty.length() + 2);
    faulty(sixty + "7", 5, sixty.length());
  }

  private static void p4state() {
    promise = "promise 4";
    SundayPit x = told(SMALL + "props 4;");
    x.seed(77);
    x.cut(1);
    x.prop(1);
    x.burn(1);
    bores(x, 0, 0, 1);
    judge(x, 0);
    x.image();
    due("bores told", x.fits(0) < 15, true);
    due("a pit with a fault", pit(x, "pit 3 at 0;?"), NONE);
    due("all stays: acts", x.has(13), 3);
    due("all stays: cell", x.cell(1, 1), 2);
    due("all stays: judged", x.judged(0), 0);
    due("all stays: bores", x.fits(0) < 15, true);
    due("all stays: letters", x.letter(0, 1, 0), 2);
    due("all stays: rest", x.kind(1, 0), 5);
    due("a new pit", pit(x, SMALL), 5);
    for (int i : new int[] {7, 8, 9, 10, 11, 13}) due("has(" + i + ")", x.has(i), 0);
    due("props", x.has(6), 5);
    due("WHOLE", x.cell(1, 1), 0);
    due("no BORES", x.fits(0), 15);
    due("judged", x.judged(0), NONE);
    due("undo", x.undo(), false);
    due("the image stays", x.octet(0), 3);
    SundayPit y = told(WIDE);
    y.seed(77);
    x.seed(77);
    pit(x, WIDE);
    x.days(20);
    y.days(20);
    for (int c = 0; c < 32; c++) due("the seed stays: cell " + c, x.cell(c, 1), y.cell(c, 1));
    put(x, "pit 3 at 0;   ");
    x.pit();
    due("the tape goes", x.feed(0, 0, 0, 0, 0), 20);
    x.pit();
    due("the tape goes with a FAULT", x.feed(0, 0, 0, 0, 0), 20);
  }

  private static void p5() {
    promise = "promise 5";
    SundayPit x = new SundayPit();
    due("fault(0)", x.fault(0), 0);
    due("fault(1)", x.fault(1), NONE);
    due("fault(2)", x.fault(2), NONE);
    due("fault(-1)", x.fault(-1), NONE);
    pit(x, "pit 2");
    ask(x, "often all");
    due("ask without a pit does nothing else", x.fault(0), 2);
    due("its place", x.fault(1), 4);
    pit(x, SMALL);
    due("none", x.fault(0), 0);
    due("no place", x.fault(1), NONE);
    ask(x, "often");
    due("of ask", x.fault(0), 1);
    due("of ask, place", x.fault(1), 5);
    ask(x, "often all");
    due("of a good ask", x.fault(0), 0);
    due("of a good ask, place", x.fault(1), NONE);
  }

  private static void p6to8() {
    promise = "promise 6";
    SundayPit x = told(SMALL + "house inn at 2;mix b a;holds 1;props 7;");
    int[] first = {3, 2, 2, 1, 1, 1, 7, 0, 0, 0, 0, 0, 1, 0};
    for (int i = 0; i < 14; i++) due("has(" + i + ")", x.has(i), first[i]);
    x.cut(1);
    x.prop(1);
    x.burn(1);
    x.cut(0);
    x.cut(2);
    x.cut(3);
    x.cut(5);
    x.cut(4);
    int[] then = {3, 2, 2, 1, 1, 1, 6, 4, 3 + 5 + 3 + 5 + 3, 5, 3, 3, 0, 8};
    for (int i = 0; i < 14; i++) due("then has(" + i + ")", x.has(i), then[i]);
    due("has(-1)", x.has(-1), NONE);
    due("has(14)", x.has(14), NONE);
    promise = "promise 7";
    SundayPit y = told("pit 3 at 0;kind abcdef rest 1 gas 0;kind z rest 1 gas 0;house qy at 1;");
    for (int k = 0; k < 6; k++) due("letter " + k, y.letter(0, 0, k), k + 1);
    due("z", y.letter(0, 1, 0), 26);
    due("behind z", y.letter(0, 1, 1), 0);
    due("last behind z", y.letter(0, 1, 5), 0);
    due("q", y.letter(1, 0, 0), 17);
    due("y", y.letter(1, 0, 1), 25);
    due("behind y", y.letter(1, 0, 2), 0);
    int[][] none = {{0, 0, 6}, {0, 0, -1}, {0, 2, 0}, {0, -1, 0}, {1, 1, 0}, {2, 0, 0}, {-1, 0, 0}, {0, Integer.MAX_VALUE, 0}};
    for (int[] a : none) due("letter " + a[0] + " " + a[1] + " " + a[2], y.letter(a[0], a[1], a[2]), NONE);
    promise = "promise 8";
    int[][] kinds = {{3, 0, 3, 2, 3, 0}, {5, 99, 1, 1, 2, 0}};
    for (int k = 0; k < 2; k++) for (int i = 0; i < 6; i++) due("kind " + k + " " + i, x.kind(k, i), kinds[k][i]);
    due("no such kind", x.kind(2, 0), NONE);
    due("no such kind", x.kind(-1, 0), NONE);
    due("others", x.kind(0, 6), NONE);
    due("others", x.kind(0, -1), NONE);
    SundayPit z = told(SMALL);
    z.cut(1);
    due("of the KIND", z.kind(1, 4), 2);
    due("WHOLE of the KIND", z.kind(1, 5), 1);
  }

  private static void p9() {
    promise = "promise 9";
    SundayPit x = told("pit 5 at 2;kind a rest 4 gas 7;row aaxaa;row aaaaa;holds 3;may across<4;worth rest*10+near-span+depth;");
    int[][] fresh = {{-1, 0, 0, 1, 0, 0, 0}, {0, 0, 0, 1, 0, 2, 40}};
    for (int i = 0; i < 7; i++) due("shaft " + i, x.cell(2, i), fresh[0][i]);
    for (int i = 0; i < 7; i++) due("cell 7, " + i, x.cell(7, i), fresh[1][i]);
    due("rock is worth 0", x.cut(2), 0);
    due("no tub of rock", x.has(7), 0);
    due("worth ahead of it", x.cut(3), 40 + 1 - 2);
    due("of the next", x.cell(1, 6), 40 + 1 - 3);
    due("may not", x.cell(4, 5), 3);
    due("why not WHOLE", x.cell(3, 5), 1);
    due("why not beside", x.cell(5, 5), 2);
    due("can", x.cell(8, 5), 0);
    due("REACHED", x.cell(3, 4), 1);
    due("not REACHED", x.cell(8, 4), 0);
    due("near", x.cell(4, 2), 1);
    due("SPAN of an OPEN one", x.cell(3, 3), 2);
    due("SPAN of the next", x.cell(4, 3), 3);
    due("SPAN in another ROW", x.cell(8, 3), 1);
    due("span that holds", x.cut(1), 38);
    due("none fell", x.has(11), 0);
    due("span that falls", x.cut(0), 40 + 1 - 4);
    due("all four fell", x.has(11), 4);
    due("FALLEN", x.cell(1, 1), 3);
    due("the tubs are there", x.kind(0, 2), 3);
    due("nothing is REACHED", x.cell(2, 4), 0);
    due("SPAN of a FALLEN one", x.cell(1, 3), 1);
    due("why", x.cell(4, 5), 2);
    due("why of the FALLEN", x.cell(2, 5), 1);
    int[][] none = {{10, 0}, {-1, 0}, {0, 7}, {0, -1}, {Integer.MAX_VALUE, 0}};
    for (int[] a : none) due("cell " + a[0] + " " + a[1], x.cell(a[0], a[1]), NONE);
    SundayPit y = told("pit 3 at 1;kind a rest 9 gas 0;row aaa;worth 0-5;");
    due("below is 0", y.cell(1, 6), 0);
    SundayPit z = told("pit 3 at 1;kind a rest 9 gas 0;row aax;worth 1000;");
    due("above is 999", z.cell(1, 6), 999);
    due("0 of rock", z.cell(2, 6), 0);
    SundayPit p = told("pit 5 at 2;row xxxxx;holds 2;");
    p.cut(2);
    p.cut(1);
    p.prop(1);
    p.cut(0);
    due("a prop parts the SPAN", p.cell(3, 3), 2);
    due("a PROPPED one's SPAN", p.cell(1, 3), 3);
    due("propped", p.cell(1, 1), 2);
    due("reached through a prop", p.cell(0, 4), 1);
    due("no SPAN around the row's end", told("pit 3 at 0;row xxx;row xxx;").cell(3, 3), 1);
  }

  private static void p10() {
    promise = "promise 10";
    SundayPit x = told("pit 5 at 2;row xxxxx;row xxxxx;house l at 0;house m at 2;house r at 4;holds 2;leans 5;");
    x.cut(2);
    x.prop(2);
    x.cut(1);
    x.cut(3);
    due("l", x.house(0, 1), 1);
    due("m", x.house(1, 1), 3);
    due("r", x.house(2, 1), 1);
    x.cut(7);
    x.cut(8);
    due("leans not", x.house(1, 2), 0);
    due("m at 5", x.house(1, 1), 5);
    x.cut(6);
    due("three fell", x.has(11), 3);
    due("twice the FALLEN", x.house(1, 1), 3 + 6);
    due("leans", x.house(1, 2), 1);
    due("COLUMN", x.house(2, 0), 4);
    due("r", x.house(2, 1), 1 + 2);
    int[][] none = {{3, 0}, {-1, 0}, {0, 3}, {0, -1}};
    for (int[] a : none) due("house " + a[0] + " " + a[1], x.house(a[0], a[1]), NONE);
    SundayPit y = told("pit 3 at 0;row xxx;house h at 1;tilt 9999+across+open+fallen;leans 999;");
    due("above is 9999", y.house(0, 1), 9999);
    due("leans", y.house(0, 2), 1);
    SundayPit z = told("pit 3 at 0;row xxx;house h at 1;tilt open-across;leans 0;");
    due("below is 0", z.house(0, 1), 0);
    due("0 is not above 0", z.house(0, 2), 0);
    due("default leans", told("pit 3 at 0;row xxx;house h at 1;tilt 10;").house(0, 2), 0);
    due("above it", told("pit 3 at 0;row xxx;house h at 1;tilt 11;").house(0, 2), 1);
  }

  private static void p11and12() {
    promise = "promise 11";
    SundayPit x = told(SMALL + "holds 1;");
    due("ahead of any", x.judged(0), NONE);
    due("an order", judge(x, 1, 4, 3), 2 + 1);
    due("no state is changed", x.has(10), 0);
    promise = "promise 12";
    due("why", x.judged(0), 0);
    due("worth", x.judged(1), 5 + 0 + 5);
    due("fell", x.judged(2), 2);
    due("judged(3)", x.judged(3), NONE);
    due("judged(-1)", x.judged(-1), NONE);
    promise = "promise 11";
    due("stops", judge(x, 1, 3, 4), 1);
    due("why", x.judged(0), 2);
    due("worth", x.judged(1), 5);
    due("none", judge(x), 0);
    due("why of none", x.judged(0), 0);
    due("worth of none", x.judged(1), 0);
    due("no CELL", judge(x, 1, 6), NONE);
    due("no CELL", judge(x, 255), NONE);
    due("stays", x.judged(1), 0);
    int[] many = new int[49];
    due("49", judge(x, many), NONE);
    due("refused", x.status(1), 3);
    int[] most = new int[48];
    due("48", judge(x, most), 0);
    due("why", x.judged(0), 2);
    x.cut(1);
    due("from now on", judge(x, 0), 1);
    due("it fell", x.judged(2), 2);
    put(x, 1);
    x.judge();
    due("the tape goes", x.feed(0, 0, 0, 0, 0), 20);
    SundayPit y = told("pit 3 at 0;row xxx;may across<1;");
    due("may not", judge(y, 0, 1), 1);
    due("why 3", y.judged(0), 3);
    pit(y, SMALL);
    due("of this PIT", y.judged(0), NONE);
  }

  private static void p13and14() {
    promise = "promise 13";
    SundayPit x = told("pit 5 at 2;kind a rest 1 gas 0;kind b rest 9 gas 0;row baxab;row aaaaa;holds 2;");
    due("best 1", x.best(1, NONE), 0);
    due("best 2", x.best(2, NONE), 1);
    due("of like ones the first", x.best(2, 1), 1);
    due("best 3", x.best(3, NONE), 2);
    due("3: cells", x.best(3, 1) * 100 + x.best(3, 2), 106);
    due("how many", x.best(3, 20), 3);
    x.cut(2);
    x.prop(2);
    due("with a prop", x.best(2, NONE), 10);
    due("first", x.best(2, 0), 1);
    due("second", x.best(2, 1), 0);
    due("three", x.best(3, NONE), 11);
    due("three in order", x.best(3, 0) * 10000 + x.best(3, 1) * 100 + x.best(3, 2), 1 * 10000 + 0 * 100 + 3);
    int[][] none = {{0, NONE}, {4, NONE}, {-1, NONE}, {3, 3}, {3, 19}, {3, 21}, {3, -2}, {Integer.MAX_VALUE, 0}};
    for (int[] a : none) due("best " + a[0] + " " + a[1], x.best(a[0], a[1]), NONE);
    SundayPit f = told("pit 3 at 0;kind a rest 4 gas 0;row aaa;holds 1;");
    due("fewer", f.best(3, 20), 1);
    due("worth of fewer", f.best(3, NONE), 4);
    f.cut(0);
    due("none", f.best(1, NONE), NONE);
    due("how many of none", f.best(1, 20), NONE);
    promise = "promise 14";
    due("over: worth", f.rivals(3, NONE), 4);
    due("it falls", f.rivals(3, 0), 1);
    due("over", f.rivals(3, 1), 100);
    due("over", f.rivals(3, 2), 100);
    SundayPit r = told("pit 3 at 1;kind a rest 2 gas 0;kind b rest 9 gas 0;kind c rest 5 gas 0;row cxc;row bab;holds 8;");
    due("no turns", r.rivals(0, NONE), 0);
    due("one turn", r.rivals(1, NONE), 0);
    r.cut(1);
    due("one", r.rivals(1, NONE), 5);
    due("two", r.rivals(2, NONE), 5 - 9);
    due("of like ones the first", r.rivals(2, 0), 0);
    due("the rival", r.rivals(2, 1), 3);
    due("three", r.rivals(3, NONE), 2 - 9 + 9);
    due("first of three", r.rivals(3, 0), 4);
    due("second of three", r.rivals(3, 1), 3);
    due("third of three", r.rivals(3, 2), 5);
    long[][] no = {{-1, NONE}, {4, NONE}, {0, 0}, {2, 2}, {3, 3}, {3, -2}, {3, 100}};
    for (long[] a : no) due("rivals " + a[0] + " " + a[1], r.rivals((int) a[0], (int) a[1]), NOTHING);
  }

  private static void p15() {
    promise = "promise 15";
    String kinds = "pit 3 at 0;kind a rest 1 gas 0;kind b rest 1 gas 0;kind c rest 1 gas 0;kind d rest 1 gas 0;kind e rest 1 gas 0;";
    SundayPit x = told(kinds);
    due("one does", x.stores(NONE), 1);
    due("all there", x.stores(4), 0);
    due("none such", x.stores(5), NONE);
    due("none such", x.stores(-2), NONE);
    SundayPit ring = told(kinds + "mix a b;mix b c;mix c d;mix d e;mix e a;");
    int[] want = {0, 1, 0, 1, 2};
    due("a ring of five", ring.stores(NONE), 3);
    for (int k = 0; k < 5; k++) due("of the ring " + k, ring.stores(k), want[k]);
    SundayPit crown = told(kinds + "mix a d;mix b c;mix c d;");
    int[] first = {0, 1, 0, 1, 0};
    due("two do, though not if b shares with a", crown.stores(NONE), 2);
    for (int k = 0; k < 5; k++) due("of the path " + k, crown.stores(k), first[k]);
    SundayPit all = told(kinds + "mix a b;mix a c;mix a d;mix a e;mix b c;mix b d;mix b e;mix c d;mix c e;mix d e;");
    due("all apart", all.stores(NONE), 5);
    due("the last", all.stores(4), 4);
    due("no kinds", told("pit 3 at 0;").stores(NONE), 0);
    due("no kind", told("pit 3 at 0;").stores(0), NONE);
  }

  private static void p16to18() {
    promise = "promise 16";
    SundayPit x = told(SMALL + "props 1;");
    due("not beside", x.cut(0), NONE);
    due("below 0", x.cut(-1), NONE);
    due("no CELL", x.cut(6), NONE);
    due("the shaft", x.cut(1), 5);
    due("again", x.cut(1), NONE);
    due("refused", x.status(2), 4);
    due("tub", x.kind(1, 2), 1);
    due("acts", x.has(13), 1);
    promise = "promise 17";
    due("WHOLE", x.prop(0), false);
    due("no CELL", x.prop(-1), false);
    due("no CELL", x.prop(6), false);
    due("cut", x.prop(1), true);
    due("again", x.prop(1), false);
    x.cut(0);
    due("no props left", x.prop(0), false);
    due("props left", x.has(6), 0);
    due("refused", x.status(2), 9);
    promise = "promise 18";
    due("no KIND", x.burn(2), false);
    due("no KIND", x.burn(-1), false);
    due("a tub", x.burn(1), true);
    due("no tub", x.burn(1), false);
    due("rest", x.has(9), 5);
    due("worth stays", x.has(8), 8);
    due("tubs", x.has(7), 1);
    due("refused", x.status(2), 12);
    due("acts", x.has(13), 4);
  }

  /** The draws of the document, for days that are told by hand. */
  private static long drawn;
  private static int draw(int m) {
    drawn = (1103515245L * drawn + 12345L) % 2147483648L;
    return (int) (drawn / 64 % m);
  }

  private static void p19() {
    promise = "promise 19";
    SundayPit none = new SundayPit();
    due("no pit", none.days(1), NONE);
    due("refused", none.status(3), 1);
    SundayPit x = told("pit 8 at 4;kind a rest 2 gas 0;row aaaaaaaa;holds 8;");
    due("0", x.days(0), NONE);
    due("31", x.days(31), NONE);
    due("-1", x.days(-1), NONE);
    due("refused", x.status(3), 3);
    due("one ACT", x.days(3), 0);
    due("acts", x.has(13), 1);
    drawn = 1;
    int low = 4, high = 4;
    draw(1);
    draw(100);
    for (int day = 2; day <= 3; day++) {
      int choices = (low > 0 ? 1 : 0) + (high < 7 ? 1 : 0);
      int way = draw(choices);
      draw(100);
      if (low > 0 && way == 0) low--; else high++;
    }
    for (int c = 0; c < 8; c++) due("cell " + c, x.cell(c, 1), c >= low && c <= high ? 1 : 0);
    due("30 days", x.days(30), 0);
    due("all cut", x.has(10), 8);
    due("none can be cut", x.days(5), 0);
    due("acts", x.has(13), 3);
    x.seed(5);
    x.days(30);
    SundayPit y = told("pit 8 at 4;kind a rest 2 gas 0;row aaaaaaaa;holds 8;");
    y.seed(5);
    y.days(2);
    pit(x, "pit 8 at 4;kind a rest 2 gas 0;row aaaaaaaa;holds 8;");
    x.days(2);
    for (int c = 0; c < 8; c++) due("no DRAWS without CELLS " + c, x.cell(c, 1), y.cell(c, 1));
    int blasts = 0;
    for (int seed = 0; seed < 60; seed++) {
      SundayPit z = told("pit 3 at 1;kind a rest 4 gas 0;kind b rest 7 gas 60;row bbb;row bab;");
      z.cut(1);
      z.prop(1);
      z.seed(seed);
      drawn = seed;
      int cell = new int[] {0, 2, 4}[draw(3)];
      boolean blast = draw(100) < (cell == 4 ? 0 : 60);
      due("blast " + seed, z.days(1), blast ? 1 : 0);
      due("cell " + seed, z.cell(cell, 1), blast ? 3 : 1);
      due("beside it " + seed, z.cell(1, 1), blast ? 3 : 2);
      due("WHOLE ones stay " + seed, z.kind(0, 5) + z.kind(1, 5), 4);
      due("worth " + seed, z.has(8), 7 + (blast ? 0 : cell == 4 ? 4 : 7));
      due("tubs " + seed, z.has(7), blast ? 1 : 2);
      blasts += blast ? 1 : 0;
    }
    due("some blasts", blasts > 5 && blasts < 55, true);
    SundayPit r = told("pit 3 at 1;row xxx;");
    due("rock does not blast", r.days(30), 0);
    due("no tubs", r.has(7), 0);
    due("a pit without CELLS", told("pit 3 at 1;").days(1), 0);
  }

  private static void p20and21() {
    promise = "promise 20";
    SundayPit x = told(WIDE + "props 20;");
    due("none", x.undo(), false);
    due("refused", x.status(4), 1);
    for (int c = 0; c < 25; c++) x.cut(c);
    due("the last 20", x.has(13), 20);
    for (int i = 0; i < 20; i++) {
      due("undo " + i, x.undo(), true);
      due("OPEN " + i, x.has(10), 24 - i);
      due("the latest " + i, x.cell(24 - i, 1), 0);
      due("tubs " + i, x.has(7), 24 - i);
      due("worth " + i, x.has(8), 2 * (24 - i));
    }
    due("no more", x.undo(), false);
    due("five stay", x.has(10), 5);
    x.prop(0);
    x.burn(0);
    due("undo of burn", x.undo(), true);
    due("rest", x.has(9), 0);
    due("tub", x.has(7), 5);
    due("undo of prop", x.undo(), true);
    due("props", x.has(6), 20);
    due("cut", x.cell(0, 1), 1);
    x.cut(-1);
    due("a refused one is no ACT", x.has(13), 0);
    x.days(7);
    due("days are one ACT", x.undo(), true);
    due("all seven days", x.has(10), 5);
    due("refused", x.status(4), 2);
    SundayPit y = told(WIDE);
    SundayPit z = told(WIDE);
    y.days(1);
    z.days(1);
    y.days(4);
    y.undo();
    y.days(4);
    z.days(8);
    z.undo();
    z.seed(1);
    drawn = 1;
    for (int i = 0; i < 2 * 5; i++) draw(1);
    z.seed((int) drawn);
    z.days(4);
    for (int c = 0; c < 32; c++) due("the seed stays " + c, y.cell(c, 1), z.cell(c, 1));
    promise = "promise 21";
    due("below 0", x.seed(-1), false);
    due("below 0", x.seed(Integer.MIN_VALUE), false);
    due("refused", x.status(5), 2);
    due("0", x.seed(0), true);
    due("greatest", x.seed(Integer.MAX_VALUE), true);
    SundayPit a = told(WIDE);
    SundayPit b = told(WIDE);
    b.seed(1);
    a.days(9);
    b.days(9);
    for (int c = 0; c < 32; c++) due("it is 1 at first " + c, a.cell(c, 1), b.cell(c, 1));
  }

  private static void p22to24() {
    promise = "promise 22";
    SundayPit x = told("pit 4 at 1; kind s rest 5 gas 10; kind t rest 9 gas 60; row xaxx; row xabx; row aabb;");
    due("none", bores(x), NONE);
    due("one row", bores(x, 1, 0, 1), 1);
    due("no such COLUMN", bores(x, 4, 0, 0), NONE);
    due("no such ROW", bores(x, 0, 3, 0), NONE);
    due("no such KIND", bores(x, 0, 0, 3), NONE);
    due("a part of a row", bores(x, 0, 0, 0, 1), NONE);
    due("one wrong row", bores(x, 0, 0, 0, 0, 0, 9), NONE);
    due("all staying", x.fits(1), 132);
    due("refused", x.status(1), 6);
    int[] many = new int[63];
    due("21 rows", bores(x, many), NONE);
    int[] most = new int[60];
    due("20 rows", bores(x, most), 20);
    due("the latest ones alone", (x.fits(1) >> 7 & 1) + (x.fits(1) & 1), 1);
    put(x, 0, 0, 0);
    x.bores();
    due("the tape goes", x.feed(0, 0, 0, 0, 0), 20);
    promise = "promise 23";
    due("the last KIND", bores(x, 2, 1, 2), 1);
    due("bits", x.fits(1), 1 << 2 | 1 << 1 | 1 << 7);
    due("how many", x.fits(0), 3);
    due("the first", x.fits(2), 1);
    due("others", x.fits(3), NONE);
    due("others", x.fits(-1), NONE);
    due("contradiction", bores(x, 0, 0, 1, 0, 0, 2), 2);
    due("how many", x.fits(0), 0);
    due("bits", x.fits(1), 0);
    due("the first", x.fits(2), NONE);
    promise = "promise 24";
    due("without FITS", x.next(0), NONE);
    due("without FITS", x.next(1), NONE);
    bores(x, 2, 1, 2);
    due("next", x.next(0), 0);
    due("alike at the most", x.next(1), 2);
    due("others", x.next(2), NONE);
    due("others", x.next(-1), NONE);
    due("without CELLS", told("pit 3 at 0;").next(0), NONE);
    due("FITS without a pit", new SundayPit().fits(0), 15);
    due("beyond is rock", told("pit 3 at 0;kind a rest 1 gas 0;row aaa;").next(1), 12);
  }

  private static void p25() {
    promise = "promise 25";
    SundayPit x = told("pit 8 at 0;kind a rest 2 gas 0;kind b rest 3 gas 0;row aaabbbxx;holds 8;");
    due("nothing", x.theft(0, 0), 1);
    due("fewest of nothing", x.theft(0, 10), 0);
    due("no set", x.theft(2, 0), 0);
    due("fewest without a set", x.theft(2, 10), NONE);
    for (int c = 0; c < 6; c++) x.cut(c);
    due("6: three a or two b", x.theft(6, 0), 2);
    due("fewest a", x.theft(6, 10), 0);
    due("fewest b", x.theft(6, 11), 0);
    due("13", x.theft(13, 0), 1);
    due("fewest a of 13", x.theft(13, 10), 2);
    due("fewest b of 13", x.theft(13, 11), 3);
    due("15", x.theft(15, 11), 3);
    due("16", x.theft(16, 0), 0);
    due("greatest", x.theft(Integer.MAX_VALUE, 0), 0);
    due("below 0", x.theft(-1, 0), NONE);
    int[] none = {-1, 1, 9, 12, Integer.MAX_VALUE};
    for (int what : none) due("others " + what, x.theft(6, what), NONE);
    x.burn(1);
    due("burnt", x.theft(15, 0), 0);
    due("12", x.theft(12, 10), 3);
  }

  private static void p26() {
    promise = "promise 26";
    due("without a pit", ask(new SundayPit(), "often all"), NOTHING);
    SundayPit x = told(SMALL);
    x.cut(1);
    x.cut(0);
    x.prop(0);
    Object[][] asks = {
        {"first all", 0L}, {"last all", 5L}, {"often all", 6L}, {"first rest=5 and whole=1", 3L}, {"last open=1", 1L},
        {"first rest>5", -1L}, {"last rest>5", -1L}, {"often rest>5", 0L}, {"total number", 15L}, {"total rest", 3 + 5 + 3 + 5 + 3L},
        {"most gas", 99L}, {"least gas", 0L}, {"total whole", 4L}, {"total open", 2L}, {"total fallen", 0L}, {"total depth", 3L},
        {"total across", 6L}, {"most span", 2L}, {"total near", 1 + 1 + 1 + 1 + 1L}, {"total tubs 0", 6L}, {"total tubs 1", 6L},
        {"total tubs 2", 0L}, {"total tubs(0-1)", 0L}, {"first tubs number=1", 0L}, {"total tubs tubs 0", 6L}, {"most 7/2", 3L},
        {"most (0-7)/2", -4L}, {"most 7/(0-2)", -4L}, {"most 7/0", 0L}, {"most 9999*9999", 1000000L},
        {"least 0-9999*9999", -1000000L}, {"least 0-9999*9999-5", -1000000L}, {"most 9999*9999+1-1", 999999L}, {"total 9999*9999", 6000000L},
        {"most 2+3*4", 14L}, {"most (2+3)*4", 20L}, {"most 9-3-2", 4L}, {"most 100/7*7", 98L}, {"most min(2,3)+max(4,5)", 7L},
        {"least min(number,3)", 0L}, {"often not number=2", 5L}, {"often not number=2 and number<4", 3L},
        {"often number=0 or number=1 and number=2", 1L}, {"often[number=0 or number=1]and number=1", 1L},
        {" \nfirst\nnumber\n>\n3 ", 4L}, {"often number>2", 3L}, {"often number<2", 2L}, {"most 0009", 9L},
        {"often not not not not not not all", 6L}, {"total((((((1))))))", 6L}, {"most tubs tubs tubs tubs tubs tubs 0", 1L}};
    for (Object[] a : asks) {
      due("ask " + a[0], ask(x, (String) a[0]), (Long) a[1]);
      due("fault of " + a[0], x.fault(0), 0);
    }
    SundayPit empty = told("pit 3 at 0;");
    String[] heads = {"often all", "total 5", "most 5", "least 5"};
    for (String h : heads) due(h + " without CELLS", ask(empty, h), 0);
    due("first without CELLS", ask(empty, "first all"), NONE);
    badAsk("", 1, 0);
    badAsk("  ", 1, 2);
    badAsk("sum 1", 1, 0);
    badAsk("often", 1, 5);
    badAsk("often 1", 1, 7);
    badAsk("total all", 1, 6);
    badAsk("total 1=1", 1, 7);
    badAsk("total 1;", 1, 7);
    badAsk("total 1 1", 1, 8);
    badAsk("often all first", 1, 10);
    badAsk("total soft", 1, 6);
    badAsk("total 12345", 1, 10);
    badAsk("total tubs", 1, 10);
    badAsk("total tubs1", 1, 10);
    badAsk("total tubs tubs tubs tubs tubs tubs tubs 1", 4, 36);
    badAsk("often not not [ tubs(tubs min(1,2)) = 1]", 4, 29);
    badAsk("often not not [ not tubs(tubs min(1,2)) = 1 ]", 4, 25);
    String deep = "often not [ tubs(tubs min(1,2)) = 1 ] and not [[[[[[all]]]]]]";
    badAsk(deep, 4, deep.indexOf("[[[") + 5);
    badAsk("total (((((((1)))))))", 4, 12);
    SundayPit y = told(SMALL);
    put(y, "often all");
    y.ask();
    due("the tape goes", y.feed(0, 0, 0, 0, 0), 20);
    y.ask();
    due("the tape goes with a FAULT", y.feed(0, 0, 0, 0, 0), 20);
    due("nothing is refused", y.status(1), 0);
  }

  private static int[] image(SundayPit x) {
    int[] b = new int[x.image()];
    for (int i = 0; i < b.length; i++) b[i] = x.octet(i);
    return b;
  }
  private static int[] with(int[] image, int at, int value) {
    int[] b = image.clone();
    b[at] = value;
    int c = 223;
    for (int i = 0; i + 1 < b.length; i++) c = (3 * c + b[i]) % 251;
    b[b.length - 1] = c;
    return b;
  }

  private static void p27to29() {
    promise = "promise 27";
    SundayPit x = told(SMALL + "worth 999;props 6;holds 1;");
    due("ahead of any", x.octet(0), NONE);
    x.cut(1);
    x.prop(1);
    x.cut(0);
    x.burn(0);
    x.cut(4);
    x.cut(3);
    int[] b = image(x);
    int worth = 3 * 999;
    int[] want = {5, 0, worth >> 8, worth & 255, 0, 0, 3, 0, 2, 1, 2, 0, 3, 3, 0, 0};
    want = with(want, 0, 5);
    due("length", b.length, 16);
    for (int i = 0; i < 16; i++) due("byte " + i, b[i], want[i]);
    promise = "promise 28";
    due("below", x.octet(-1), NONE);
    due("beyond", x.octet(16), NONE);
    due("greatest", x.octet(Integer.MAX_VALUE), NONE);
    x.undo();
    due("of the latest image()", x.octet(12), 3);
    promise = "promise 29";
    due("acts", x.has(13) > 0, true);
    due("on", on(x, b), true);
    due("nothing can be undone", x.has(13), 0);
    for (int i = 0; i < 6; i++) due("cell " + i, x.cell(i, 1), b[9 + i]);
    due("props", x.has(6), 5);
    due("worth", x.has(8), worth);
    due("rest", x.has(9), 3);
    due("tubs", x.kind(1, 2), 2);
    int[][] good = {with(b, 0, 6), with(b, 7, 20), with(b, 14, 3), with(with(with(b, 1, 15), 2, 66), 3, 63), with(with(with(b, 4, 15), 5, 66), 6, 63)};
    for (int i = 0; i < good.length; i++) due("good " + i, on(x, good[i]), true);
    due("rest 999999", x.has(9), 999999);
    x.cut(2);
    int acts = x.has(13), state = x.cell(2, 1);
    int[][] bad = {with(b, 0, 7), with(b, 7, 21), with(b, 8, 255), with(b, 9, 4), with(b, 14, 4),
        with(with(with(b, 1, 15), 2, 66), 3, 64), with(with(with(b, 4, 15), 5, 66), 6, 64), with(with(b, 1, 16), 2, 0)};
    for (int i = 0; i < bad.length; i++) due("bad " + i, on(x, bad[i]), false);
    int[] sum = b.clone();
    sum[15] = (sum[15] + 1) % 251;
    due("a wrong last byte", on(x, sum), false);
    due("too short", on(x, with(java.util.Arrays.copyOf(b, 15), 0, 5)), false);
    due("too long", on(x, with(java.util.Arrays.copyOf(b, 17), 0, 5)), false);
    due("empty", on(x), false);
    due("refused", x.status(5), 12);
    due("all staying: acts", x.has(13), acts);
    due("all staying: cell", x.cell(2, 1), state);
    put(x, b);
    x.on();
    due("the tape goes", x.feed(0, 0, 0, 0, 0), 20);
    x.on();
    due("the tape goes when refused", x.feed(0, 0, 0, 0, 0), 20);
    SundayPit none = new SundayPit();
    int[] empty = image(none);
    due("8 bytes", empty.length, 8);
    due("without a pit", on(none, empty), false);
    due("refused", none.status(5), 1);
    SundayPit big = told("pit 8 at 0;kind a rest 99 gas 0;" + times("row aaaaaaaa;", 6) + "holds 8;worth 999;");
    for (int c = 0; c < 48; c++) big.cut(c);
    due("48 tubs are written", big.image(), 57);
    due("48 tubs", big.octet(7), 48);
    due("more than 20 tubs are none", on(big, image(big)), false);
  }

  private static void p30() {
    promise = "promise 30";
    SundayPit x = new SundayPit();
    for (int i = 0; i < 6; i++) due("at first " + i, x.status(i), 0);
    x.end(1);
    x.pit();
    x.bores();
    put(x, 1);
    x.judge();
    x.cut(0);
    x.prop(0);
    x.burn(0);
    x.burn(0);
    for (int i = 0; i < 5; i++) x.days(1);
    for (int i = 0; i < 6; i++) x.undo();
    for (int i = 0; i < 6; i++) x.seed(-1);
    x.on();
    int[] want = {1, 3, 4, 5, 6, 7};
    for (int i = 0; i < 6; i++) due("status " + i, x.status(i), want[i]);
    x.ask();
    x.best(0, 0);
    x.octet(0);
    for (int i = 0; i < 6; i++) due("others count not " + i, x.status(i), want[i]);
    due("others", x.status(6), NONE);
    due("others", x.status(-1), NONE);
  }

  public static void main(String[] args) {
    p1();
    p2and3();
    p4texts();
    p4faultOne();
    p4otherFaults();
    p4state();
    p5();
    p6to8();
    p9();
    p10();
    p11and12();
    p13and14();
    p15();
    p16to18();
    p19();
    p20and21();
    p22to24();
    p25();
    p26();
    p27to29();
    p30();
    System.out.println(wrong == 0 ? checks + " answers are as due" : wrong + " answers are not as due");
    if (wrong != 0) System.exit(1);
  }
}
