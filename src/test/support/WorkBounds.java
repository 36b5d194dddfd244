import java.math.BigInteger;

/** The boundary sentences of Terms, II: cells, cuts, props, tubs, days. */
final class WorkBounds extends Words {
  private WorkBounds() { }

  static void run() {
    numbers();
    states();
    reached();
    span();
    canBeCut();
    cutWorth();
    cutFalls();
    propped();
    burnt();
    acts();
    days();
    blasts();
    draws();
  }

  private static void numbers() {
    Bench.terms("CELLS are numbered ROW by ROW from above, from 0 on (as many as the COLUMNS a ROW).");
    SundayPit x = Bench.told("pit 4 at 0;kind a rest 1 gas 0;kind b rest 2 gas 0;row abxx;row xxba;");
    int[] want = {0, 1, NONE, NONE, NONE, NONE, 1, 0};
    for (int c = 0; c < 8; c++) Bench.due("KIND of CELL " + c, x.cell(c, 0), want[c]);
    Bench.due("there is a last one", x.cell(7, 1), 0);
    Bench.due("none behind it", x.cell(8, 1), NONE);
    SundayPit most = Bench.told("pit 8 at 0;" + "row xxxxxxxx;".repeat(6));
    Bench.due("the 48th", most.cell(47, 1), 0);
    Bench.due("no 49th", most.cell(48, 1), NONE);
  }

  private static void states() {
    Bench.terms("A CELL is WHOLE at first; OPEN: cut, or propped; or FALLEN.");
    SundayPit x = Bench.told("pit 3 at 1;row xxx;holds 1;");
    Bench.lie("at first", x, "...");
    x.cut(1);
    Bench.lie("cut", x, ".o.");
    Bench.due("OPEN", x.has(10), 1);
    x.prop(1);
    Bench.lie("propped", x, ".p.");
    Bench.due("OPEN still", x.has(10), 1);
    x.undo();
    x.cut(0);
    Bench.lie("FALLEN", x, "##.");
    Bench.due("not OPEN", x.has(10), 0);
    Bench.due("FALLEN", x.has(11), 2);
    Bench.due("not WHOLE", Bench.ask(x, "total whole"), 1);
  }

  private static void reachedAre(String pit, String cells, String want) {
    SundayPit x = Bench.worked(pit, cells);
    for (int c = 0; c < cells.length(); c++) Bench.due("REACHED of " + cells + ", CELL " + c, x.cell(c, 4), want.charAt(c) == 'r' ? 1 : 0);
  }

  private static void reached() {
    Bench.terms("REACHED are OPEN CELLS from the uppermost one in the shaft on (if it is OPEN), by CELLS beside each other.");
    String pit = "pit 3 at 1;row xxx;row xxx;row xxx;";
    reachedAre(pit, ".........", ".........");
    reachedAre(pit, ".o.......", ".r.......");
    reachedAre(pit, ".p.......", ".r.......");
    reachedAre(pit, "o.oooo...", ".........");
    reachedAre(pit, "o#oooo...", ".........");
    reachedAre(pit, "oooopo.o.", "rrrrrr.r.");
    reachedAre(pit, ".o.o.ooo.", ".r.......");
    reachedAre(pit, ".o..#..o.", ".r.......");
    reachedAre(pit, ".oo..poo#", ".rr..r...");
    reachedAre(pit, ".oo.oooo.", ".rr.rrrr.");
    reachedAre("pit 3 at 2;row xxx;row xxx;", "..oo..", "..r...");
    reachedAre("pit 3 at 0;row xxx;row xxx;", "o....o", "r.....");
    reachedAre("pit 4 at 3;" + "row xxxx;".repeat(6), "oo.oo.ooooo.o..ooooooooo", "rr.rr.rrrrr.r..rrrrrrrrr");
  }

  private static void spans(String pit, String cells, String want) {
    SundayPit x = Bench.worked(pit, cells);
    for (int c = 0; c < cells.length(); c++) Bench.due("SPAN of " + cells + ", CELL " + c, x.cell(c, 3), want.charAt(c) - '0');
  }

  private static void span() {
    Bench.terms("SPAN of a CELL: how many CELLS side by side in its ROW are cut without a prop, if it were one of them, with it.");
    String two = "pit 5 at 0;row xxxxx;row xxxxx;holds 8;";
    spans(two, ".....".repeat(2), "1111111111");
    spans(two, "ooooo.....", "5555511111");
    spans(two, "oo.oo.....", "2252211111");
    spans(two, "oopoo.....", "2252211111");
    spans(two, "oo#oo.....", "2252211111");
    spans(two, "o.o.ooo.oo", "1313122522");
    spans(two, "....oo....", "1112112111");
    spans("pit 8 at 0;row xxxxxxxx;holds 8;", "oooooooo", "88888888");
    spans("pit 8 at 0;row xxxxxxxx;holds 8;", "ooo.oooo", "33384444");
  }

  private static void whys(String pit, String cells, String want) {
    SundayPit x = Bench.worked(pit, cells);
    int can = 0;
    for (int c = 0; c < cells.length(); c++) {
      Bench.due("why not, of " + cells + ", CELL " + c, x.cell(c, 5), want.charAt(c) - '0');
      if (want.charAt(c) == '0') can++;
    }
    Bench.due("how many CAN BE CUT, of " + cells, x.has(12), can);
  }

  private static void canBeCut() {
    Bench.terms("A CELL CAN BE CUT, if (the first that is not so tells why): it is WHOLE (1); it is the uppermost one in the shaft, or beside a REACHED one (2); the TEST of may holds (3; without all may).");
    String pit = "pit 3 at 1;row xxx;row xxx;row xxx;";
    whys(pit, ".........", "202222222");
    whys(pit, ".o.......", "010202222");
    whys(pit, ".p.......", "010202222");
    whys(pit, ".#.......", "212222222");
    whys(pit, "o.o......", "101222222");
    whys(pit, ".o..o....", "010010202");
    whys(pit, ".o..#....", "010212222");
    whys("pit 3 at 2;row xxx;row xxx;", "..o...", "201220");
    whys("pit 3 at 0;row xxx;row xxx;", "o.....", "102022");
    String never = "pit 3 at 1;row xxx;row xxx;row xxx;may not all;";
    whys(never, ".........", "232222222");
    whys(never, ".o..#....", "313212222");
    whys(never, "##.......", "112222222");
    whys("pit 3 at 1;row xxx;row xxx;may across<2 and near<2;", ".o.o..", "313132");
  }

  private static void cutWorth() {
    Bench.terms("CUT is a CELL: its tub is one of its KIND more in STORE (none of rock),");
    SundayPit x = Bench.told("pit 3 at 1;kind a rest 4 gas 0;kind b rest 6 gas 0;row bxa;row aaa;holds 8;");
    int[] order = {1, 2, 0, 5, 4}, firsts = {0, 1, 1, 2, 3}, seconds = {0, 0, 1, 1, 1};
    for (int i = 0; i < order.length; i++) {
      x.cut(order[i]);
      Bench.due("first KIND behind CELL " + order[i], x.kind(0, 2), firsts[i]);
      Bench.due("second KIND behind CELL " + order[i], x.kind(1, 2), seconds[i]);
    }
    Bench.terms("worth the SUM of worth, 0 .. 999 (below is 0, above 999; its rest without; 0 of rock), as all is ahead of it;");
    String[] sums = {"0-1", "0", "1", "998", "999", "1000", "0-9999*9999", "9999*9999"};
    int[] worths = {0, 0, 1, 998, 999, 999, 0, 999};
    for (int i = 0; i < sums.length; i++) {
      SundayPit y = Bench.told("pit 3 at 1;kind a rest 4 gas 0;row xax;worth " + sums[i] + ";");
      Bench.due("told ahead, worth " + sums[i], y.cell(1, 6), worths[i]);
      Bench.due("worth " + sums[i], y.cut(1), worths[i]);
      Bench.due("of all, worth " + sums[i], y.has(8), worths[i]);
      Bench.due("rock, worth " + sums[i], y.cut(0), 0);
      Bench.due("rock told, worth " + sums[i], y.cell(2, 6), 0);
      Bench.due("of all, with rock, worth " + sums[i], y.has(8), worths[i]);
    }
    SundayPit rest = Bench.told("pit 3 at 1;kind a rest 99 gas 0;row xax;");
    Bench.due("its rest without", rest.cut(1), 99);
    Bench.due("0 of rock without", rest.cut(0), 0);
    SundayPit ahead = Bench.told("pit 3 at 1;kind a rest 4 gas 0;row aaa;holds 2;worth 100*near+10*span+depth;");
    Bench.due("none OPEN ahead of it", ahead.cut(1), 10);
    Bench.due("one OPEN ahead of it", ahead.cut(0), 120);
    Bench.due("though it falls", ahead.cut(2), 130);
    Bench.due("of all", ahead.has(8), 260);
  }

  private static void cutFalls() {
    Bench.terms("then, if its SPAN is above holds, all CELLS of it are FALLEN (the tub is there).");
    for (int holds = 1; holds <= 8; holds++) {
      SundayPit x = Bench.told("pit 8 at 0;kind a rest 1 gas 0;row aaaaaaaa;row xxxxxxxx;holds " + holds + ";");
      for (int c = 0; c < 8 && c <= holds; c++) {
        x.cut(c);
        boolean falls = c + 1 > holds;
        Bench.due("FALLEN with holds " + holds + " behind " + c, x.has(11), falls ? c + 1 : 0);
        Bench.due("OPEN with holds " + holds + " behind " + c, x.has(10), falls ? 0 : c + 1);
        Bench.due("the tubs are there", x.kind(0, 2), c + 1);
        Bench.due("and their worth", x.has(8), c + 1);
      }
    }
    SundayPit mid = Bench.worked("pit 5 at 2;kind a rest 1 gas 0;row aaaaa;row aaaaa;holds 2;", "oo.po.....");
    mid.cut(2);
    Bench.lie("all CELLS of it, as far as the prop", mid, "###po.....");
    SundayPit prop = Bench.worked("pit 5 at 0;row xxxxx;holds 2;", "opo..");
    prop.cut(3);
    Bench.lie("a prop parts it", prop, "opoo.");
    prop.cut(4);
    Bench.lie("all of it, no more", prop, "op###");
    SundayPit rows = Bench.worked("pit 3 at 0;row xxx;row xxx;holds 1;", "o.....");
    rows.cut(3);
    Bench.lie("another ROW does not count", rows, "o..o..");
    SundayPit rock = Bench.worked("pit 3 at 0;row xxx;holds 1;", "o..");
    rock.cut(1);
    Bench.lie("rock falls, too", rock, "##.");
  }

  private static void propped() {
    Bench.terms("PROPPED is a CELL that is cut without a prop, as long as there are props.");
    SundayPit x = Bench.worked("pit 5 at 0;row xxxxx;props 2;holds 8;", "oo.p#");
    Bench.no("WHOLE", x.prop(2));
    Bench.no("propped already", x.prop(3));
    Bench.no("FALLEN", x.prop(4));
    Bench.yes("the first prop", x.prop(0));
    Bench.due("one is left", x.has(6), 1);
    Bench.yes("the second", x.prop(1));
    Bench.due("none is left", x.has(6), 0);
    x.cut(2);
    Bench.no("no props", x.prop(2));
    Bench.lie("so", x, "ppop#");
    SundayPit none = Bench.worked("pit 3 at 0;row xxx;props 0;", "o..");
    Bench.no("props 0", none.prop(0));
    SundayPit twenty = Bench.worked("pit 8 at 0;row xxxxxxxx;row xxxxxxxx;row xxxxxxxx;props 20;", "o".repeat(24));
    for (int c = 0; c < 24; c++) Bench.due("prop " + c, twenty.prop(c), c < 20);
    SundayPit apart = Bench.worked("pit 3 at 0;row xxx;", ".o.");
    Bench.yes("one that is not REACHED, too", apart.prop(1));
  }

  private static void burnt() {
    Bench.terms("BURNT is a tub in STORE: one less; its rest is had.");
    SundayPit x = Bench.told("pit 3 at 0;kind a rest 99 gas 0;kind b rest 1 gas 0;row aab;worth 7;holds 8;");
    Bench.no("none yet", x.burn(0));
    for (int c = 0; c < 3; c++) x.cut(c);
    Bench.yes("the first", x.burn(0));
    Bench.due("one less", x.kind(0, 2), 1);
    Bench.due("its rest", x.has(9), 99);
    Bench.yes("the second", x.burn(0));
    Bench.no("no third", x.burn(0));
    Bench.due("rest of both", x.has(9), 198);
    Bench.yes("of the other KIND", x.burn(1));
    Bench.due("rest of all", x.has(9), 199);
    Bench.due("worth of all that were cut stays", x.has(8), 21);
    Bench.due("STORE is empty", x.has(7), 0);
  }

  private static void acts() {
    Bench.terms("ACTS: a CELL is CUT, PROPPED; a tub is BURNT; DAYS by the seed:");
    SundayPit x = Bench.told("pit 8 at 0;kind a rest 1 gas 0;row aaaaaaaa;row aaaaaaaa;holds 8;");
    x.cut(0);
    Bench.due("cut", x.has(13), 1);
    x.prop(0);
    Bench.due("propped", x.has(13), 2);
    x.burn(0);
    Bench.due("burnt", x.has(13), 3);
    x.days(3);
    Bench.due("days", x.has(13), 4);
    x.cut(0);
    x.prop(0);
    x.burn(1);
    x.days(0);
    Bench.due("what is refused is none", x.has(13), 4);
    x.seed(5);
    Bench.judge(x, 1, 2);
    Bench.bores(x, 0, 0, 1);
    x.image();
    Bench.due("the others are none", x.has(13), 4);
    Bench.terms("The last 20 can be undone.");
    SundayPit y = Bench.told("pit 8 at 0;" + "row xxxxxxxx;".repeat(4) + "holds 8;");
    for (int c = 0; c < 23; c++) {
      y.cut(c);
      Bench.due("can be undone behind " + (c + 1), y.has(13), Math.min(20, c + 1));
    }
    for (int i = 0; i < 20; i++) Bench.yes("undo " + i, y.undo());
    Bench.no("no 21st", y.undo());
    Bench.lie("three stay", y, "ooo" + ".".repeat(29));
    for (int c = 3; c < 32; c++) y.cut(c);
    for (int i = 0; i < 20; i++) y.undo();
    Bench.no("no 21st again", y.undo());
    Bench.lie("twelve stay", y, "o".repeat(12) + ".".repeat(20));
  }

  // ---- days

  private static final BigInteger M = BigInteger.valueOf(1103515245L), TWO31 = BigInteger.ONE.shiftLeft(31);
  private static BigInteger seed;

  private static int draw(int m) {
    seed = seed.multiply(M).add(BigInteger.valueOf(12345)).mod(TWO31);
    return seed.shiftRight(6).mod(BigInteger.valueOf(m)).intValue();
  }

  private static void days() {
    Bench.terms("for each a DRAW of all CELLS that CAN BE CUT (by numbers): that one is CUT (none, no DRAWS, if there are none); then a DRAW of 100:");
    for (int first = 0; first < 40; first++) {
      SundayPit x = Bench.worked("pit 5 at 2;kind a rest 3 gas 0;row xxaxx;row aaaaa;row xxxxx;holds 8;", "ooooo" + ".".repeat(10));
      x.seed(first);
      seed = BigInteger.valueOf(first);
      int one = 5 + draw(5);
      draw(100);
      Bench.due("no BLAST of gas 0", x.days(1), 0);
      StringBuilder cells = new StringBuilder("ooooo" + ".".repeat(10));
      cells.setCharAt(one, 'o');
      Bench.lie("by numbers, seed " + first, x, cells.toString());
      Bench.due("its tub, seed " + first, x.kind(0, 2), 1);
      Bench.due("its worth, seed " + first, x.has(8), 3);
      int two = draw(5);
      draw(100);
      int[] can = new int[5];
      int n = 0;
      for (int c = 5; c < 15; c++) if (c != one && (c < 10 || c == one + 5)) can[n++] = c;
      cells.setCharAt(can[two], 'o');
      x.days(1);
      Bench.lie("a DRAW of 100 lies between, seed " + first, x, cells.toString());
    }
    String small = "pit 3 at 1;row xxx;may depth<0;";
    SundayPit none = Bench.told(small);
    none.seed(7);
    Bench.due("none CAN BE CUT", none.days(30), 0);
    Bench.lie("none is", none, "...");
    Bench.pit(none, "pit 8 at 0;row xxxxxxxx;row xxxxxxxx;holds 8;");
    SundayPit fresh = Bench.told("pit 8 at 0;row xxxxxxxx;row xxxxxxxx;holds 8;");
    fresh.seed(7);
    none.days(6);
    fresh.days(6);
    Bench.lie("no DRAWS if there are none", none, Bench.cells(fresh));
    SundayPit rock = Bench.told("pit 8 at 0;row xxxxxxxx;row xxxxxxxx;holds 8;");
    SundayPit coal = Bench.told("pit 8 at 0;kind a rest 1 gas 0;row aaaaaaaa;row aaaaaaaa;holds 8;");
    rock.days(9);
    coal.days(9);
    Bench.lie("rock draws twice, too", rock, Bench.cells(coal));
  }

  private static void blasts() {
    Bench.terms("below the gas of its KIND there is a BLAST: it and the CELLS beside it that are OPEN are FALLEN, its tub is lost (and its worth).");
    for (int gas = 0; gas < 100; gas++) {
      SundayPit x = Bench.told("pit 3 at 1;kind a rest 5 gas " + gas + ";row aaa;row aaa;");
      int first = 11 * gas + 3;
      x.seed(first);
      seed = BigInteger.valueOf(first);
      draw(1);
      int by = draw(100);
      for (int g = by; g <= by + 1 && g < 100; g++) {
        SundayPit y = Bench.told("pit 3 at 1;kind a rest 5 gas " + g + ";row aaa;row aaa;");
        y.seed(first);
        Bench.due("drawn " + by + ", gas " + g, y.days(1), by < g ? 1 : 0);
        Bench.lie("drawn " + by + ", gas " + g, y, by < g ? ".#...." : ".o....");
        Bench.due("tubs, gas " + g, y.has(7), by < g ? 0 : 1);
        Bench.due("worth, gas " + g, y.has(8), by < g ? 0 : 5);
      }
      Bench.due("BLASTS, gas " + gas, x.days(1), by < gas ? 1 : 0);
    }
    SundayPit x = Bench.worked("pit 5 at 2;kind a rest 5 gas 99;row xxxxx;row xxaxx;row xxxxx;row xxxxx;holds 8;may across=2 and depth=1;",
        "ooooo" + "oo.po" + ".oo.." + ".....");
    x.seed(seedFor(1, 99));
    Bench.due("a BLAST", x.days(1), 1);
    Bench.lie("four sides, cut and propped, no corners", x, "oo#oo" + "o###o" + ".o#.." + ".....");
    Bench.due("no tub", x.has(7), 0);
    Bench.due("no worth", x.has(8), 0);
    SundayPit whole = Bench.worked("pit 3 at 1;kind a rest 5 gas 99;row xax;row xxx;", "......");
    whole.seed(seedFor(1, 99));
    whole.days(1);
    Bench.lie("WHOLE ones beside it stay", whole, ".#....");
    SundayPit falls = Bench.worked("pit 4 at 0;kind a rest 5 gas 99;row xxax;row xxxx;holds 2;may across=2 and depth=0;", "oo..oo..");
    falls.seed(seedFor(1, 99));
    Bench.due("one that falls may blast", falls.days(1), 1);
    Bench.lie("the SPAN is FALLEN", falls, "###.oo..");
    Bench.due("its tub is lost", falls.has(7), 0);
    SundayPit calm = Bench.told("pit 3 at 1;row xxx;row xxx;row xxx;");
    Bench.due("rock has no gas", calm.days(30), 0);
  }

  /** A seed by which the second DRAW of a day, the first being of m, is below the gas. */
  private static int seedFor(int m, int gas) {
    for (int s = 0; s < 1000; s++) {
      seed = BigInteger.valueOf(s);
      draw(m);
      if (draw(100) < gas) return s;
    }
    return 0;
  }

  private static void draws() {
    Bench.terms("A DRAW of m: x (the seed) becomes (1103515245 x + 12345) mod 2 to the 31; floor(x / 64) mod m.");
    int[] seeds = {0, 1, 2, 63, 64, 65, 12345, 65535, 1 << 20, 1 << 30, (1 << 30) + 1, Integer.MAX_VALUE - 1, Integer.MAX_VALUE};
    for (int s : seeds) {
      SundayPit x = Bench.worked("pit 8 at 0;row xxxxxxxx;row xxxxxxxx;row xxxxxxxx;holds 8;may depth=1;", "oooooooo" + ".".repeat(16));
      x.seed(s);
      seed = BigInteger.valueOf(s);
      boolean[] open = new boolean[8];
      for (int day = 8; day > 0; day--) {
        int which = draw(day);
        draw(100);
        int c = 0;
        for (int left = which; open[c] || left > 0; c++) if (!open[c]) left--;
        open[c] = true;
        x.days(1);
        Bench.due("seed " + s + ", of " + day + " the CELL", x.cell(8 + c, 1), 1);
        Bench.due("seed " + s + ", of " + day + " one", x.has(10), 8 + 9 - day);
      }
    }
  }
}
