/** The boundary sentences of Terms, III: orders, the best, rivals, stores, bores, thefts, houses. */
final class PlanBounds extends Words {
  private PlanBounds() { }

  static void run() {
    orders();
    best();
    rivals();
    stores();
    bores();
    fits();
    next();
    theft();
    houses();
  }

  private static void verdict(String what, SundayPit x, int why, int worth, int fell) {
    Bench.due(what + ": why", x.judged(0), why);
    Bench.due(what + ": worth", x.judged(1), worth);
    Bench.due(what + ": fell", x.judged(2), fell);
  }

  private static void orders() {
    Bench.terms("AN ORDER is a row of CELLS, cut one behind the other from now on, as long as each CAN BE CUT.");
    SundayPit x = Bench.told("pit 4 at 0;kind a rest 3 gas 0;row aaaa;row xxxx;holds 2;may depth=0;");
    Bench.due("none", Bench.judge(x), 0);
    verdict("none", x, 0, 0, 0);
    Bench.due("the shaft", Bench.judge(x, 0), 1);
    verdict("the shaft", x, 0, 3, 0);
    Bench.due("not the shaft first", Bench.judge(x, 1, 0), 0);
    verdict("not the shaft first", x, 2, 0, 0);
    Bench.due("twice", Bench.judge(x, 0, 0), 1);
    verdict("twice", x, 1, 3, 0);
    Bench.due("may not", Bench.judge(x, 0, 4, 1), 1);
    verdict("may not", x, 3, 3, 0);
    Bench.due("three fall, and nothing is REACHED", Bench.judge(x, 0, 1, 2, 3), 3);
    verdict("three fall", x, 2, 9, 3);
    Bench.lie("nothing is cut by it", x, "........");
    Bench.due("nor stored", x.has(7), 0);
    Bench.due("nor of worth", x.has(8), 0);
    x.cut(0);
    Bench.due("from now on", Bench.judge(x, 1), 1);
    verdict("from now on", x, 0, 3, 0);
    Bench.due("from now on", Bench.judge(x, 0), 0);
    verdict("cut already", x, 1, 0, 0);
    x.cut(1);
    x.cut(2);
    Bench.due("what fell ahead does not count", Bench.judge(x, 3), 0);
    verdict("what fell ahead", x, 2, 0, 0);
  }

  private static void bestIs(String what, SundayPit x, int n, int worth, int... cells) {
    Bench.due(what + ", BEST " + n, x.best(n, NONE), worth);
    Bench.due(what + ", BEST " + n + ", how many", x.best(n, 20), cells.length == 0 ? NONE : cells.length);
    for (int k = 0; k < 4; k++) Bench.due(what + ", BEST " + n + ", CELL " + k, x.best(n, k), k < cells.length ? cells[k] : NONE);
  }

  private static void best() {
    Bench.terms("BEST n: CELLS cut one behind the other (each CAN BE CUT, none FALLS) that are worth most together;");
    String pit = "pit 4 at 0;kind a rest 1 gas 0;kind b rest 9 gas 0;kind c rest 5 gas 0;row aaab;row caaa;holds 8;";
    SundayPit x = Bench.told(pit);
    bestIs("from the shaft", x, 1, 1, 0);
    bestIs("from the shaft", x, 2, 6, 0, 4);
    bestIs("from the shaft", x, 3, 7, 0, 1, 4);
    SundayPit y = Bench.worked(pit, "oo......");
    bestIs("with two OPEN", y, 1, 5, 4);
    bestIs("what is worth less opens the way", y, 2, 10, 2, 3);
    bestIs("with two OPEN", y, 3, 15, 2, 3, 4);
    SundayPit held = Bench.worked("pit 4 at 0;kind a rest 1 gas 0;kind b rest 9 gas 0;row aaab;row aaaa;holds 2;", "oo......");
    bestIs("none FALLS", held, 1, 1, 4);
    bestIs("none FALLS", held, 2, 2, 4, 5);
    bestIs("no third", held, 3, 2, 4, 5);
    SundayPit may = Bench.worked("pit 4 at 0;kind a rest 1 gas 0;kind b rest 9 gas 0;row aaab;holds 8;may rest<9;", "ooo.");
    bestIs("it may not", may, 1, NONE);
    SundayPit grows = Bench.told("pit 4 at 1;kind a rest 1 gas 0;row aaaa;holds 8;worth 10*near+span;");
    bestIs("worth as all is ahead of each", grows, 3, 1 + 12 + 13, 1, 0, 2);
    Bench.terms("of like ones the first by numbers, one behind the other;");
    String like = "pit 3 at 1;kind a rest 2 gas 0;row aaa;row aaa;holds 8;";
    bestIs("like ones", Bench.told(like), 2, 4, 1, 0);
    bestIs("like ones", Bench.told(like), 3, 6, 1, 0, 2);
    bestIs("like ones", Bench.worked(like, ".o...."), 1, 2, 0);
    bestIs("like ones", Bench.worked(like, ".o...."), 2, 4, 0, 2);
    bestIs("like ones", Bench.worked(like, ".o...."), 3, 6, 0, 2, 3);
    bestIs("all worth 0", Bench.told("pit 3 at 2;row xxx;row xxx;holds 8;"), 3, 0, 2, 1, 0);
    Bench.terms("fewer, if there are no n such (as many as can be).");
    SundayPit one = Bench.told("pit 3 at 0;kind a rest 4 gas 0;row aaa;holds 1;");
    bestIs("one alone", one, 1, 4, 0);
    bestIs("one alone", one, 2, 4, 0);
    bestIs("one alone", one, 3, 4, 0);
    one.cut(0);
    for (int n = 1; n <= 3; n++) bestIs("none", one, n, NONE);
    SundayPit many = Bench.worked("pit 5 at 1;kind a rest 1 gas 0;kind b rest 99 gas 0;row aaaab;holds 3;may across>0;", ".oo..");
    bestIs("one more holds", many, 2, 1, 3);
    SundayPit more = Bench.worked("pit 5 at 2;kind a rest 99 gas 0;row xaxxx;row xxxxx;holds 2;may depth=0 or across>2;", "..o.......");
    bestIs("one: the tub", more, 1, 99, 1);
    bestIs("two, though one alone is worth more", more, 2, 0, 3, 8);
    bestIs("three, though one alone is worth more", more, 3, 0, 3, 8, 9);
    SundayPit last = Bench.worked("pit 5 at 2;kind a rest 99 gas 0;row xxxax;row xxxxx;holds 2;may depth=0 or across<2;", "..o.......");
    bestIs("one: the tub, behind the others", last, 1, 99, 3);
    bestIs("two, though one behind them is worth more", last, 2, 0, 1, 6);
    bestIs("three, though one behind them is worth more", last, 3, 0, 1, 6, 5);
  }

  private static void duel(String what, SundayPit x, int n, long worth, int... cells) {
    Bench.due(what + ", " + n + " turns", x.rivals(n, NONE), worth);
    for (int k = 0; k < n; k++) Bench.due(what + ", turn " + k + " of " + n, x.rivals(n, k), cells[k]);
    Bench.due(what + ", no turn " + n, x.rivals(n, n), Bench.NOTHING);
  }

  private static void rivals() {
    Bench.terms("RIVALS: two by turns, the first one ahead, n turns (3 at most):");
    SundayPit x = Bench.worked("pit 3 at 1;kind a rest 2 gas 0;kind b rest 9 gas 0;kind c rest 5 gas 0;row cxc;row bab;holds 8;", ".o....");
    duel("no turns", x, 0, 0);
    duel("one", x, 1, 5, 0);
    duel("two", x, 2, 5 - 9, 0, 3);
    duel("three", x, 3, 2 - 9 + 9, 4, 3, 5);
    Bench.due("no fourth turn", x.rivals(4, NONE), Bench.NOTHING);
    Bench.terms("each cuts a CELL that CAN BE CUT (one must, if there is one; else it is over);");
    SundayPit must = Bench.worked("pit 4 at 0;kind a rest 1 gas 0;kind b rest 50 gas 0;row xxab;holds 8;", "oo..");
    duel("one must, though it helps the other one", must, 2, 1 - 50, 2, 3);
    duel("then it is over", must, 3, 1 - 50, 2, 3, 100);
    SundayPit over = Bench.worked("pit 3 at 0;row xxx;may across=0;", "o..");
    duel("over at once", over, 3, 0, 100, 100, 100);
    duel("without CELLS", Bench.told(P3), 2, 0, 100, 100);
    SundayPit may = Bench.told("pit 3 at 0;kind a rest 8 gas 0;row aaa;may across<1;");
    duel("may tells what can be", may, 2, 8, 0, 100);
    Bench.terms("what falls falls;");
    SundayPit falls = Bench.worked("pit 4 at 0;kind a rest 1 gas 0;kind b rest 50 gas 0;row xxab;holds 2;", "oo..");
    duel("the tub is there, and the way is lost", falls, 3, 1, 2, 100, 100);
    Bench.terms("each wants the worth of his tubs less the other one's to be most;");
    SundayPit wants = Bench.worked("pit 4 at 1;kind a rest 3 gas 0;kind b rest 50 gas 0;kind c rest 4 gas 0;row axcb;holds 8;", ".o..");
    duel("one turn: the greater", wants, 1, 4, 2);
    duel("two: not the way to what is worth most", wants, 2, 3 - 4, 0, 2);
    duel("three: it is mine then", wants, 3, 3 - 4 + 50, 0, 2, 3);
    Bench.terms("of like ones the first CELL.");
    SundayPit like = Bench.worked("pit 3 at 1;kind a rest 5 gas 0;row aaa;row xax;holds 8;", ".o....");
    duel("like ones", like, 1, 5, 0);
    duel("like ones", like, 2, 0, 0, 2);
    duel("like ones", like, 3, 5, 0, 2, 4);
    duel("all worth 0", Bench.worked("pit 3 at 1;row xxx;row xxx;holds 8;", ".o...."), 3, 0, 0, 2, 3);
  }

  private static void shares(String mixes, int... want) {
    SundayPit x = Bench.told(P3 + FIVE + mixes);
    int most = 0;
    for (int k = 0; k < 5; k++) {
      Bench.due("STORE of KIND " + k + " with " + mixes, x.stores(k), want[k]);
      most = Math.max(most, want[k] + 1);
    }
    Bench.due("how many STORES with " + mixes, x.stores(NONE), most);
  }

  private static void stores() {
    Bench.terms("STORES: the fewest so that KINDS which must not meet do not, all KINDS;");
    shares("", 0, 0, 0, 0, 0);
    shares("mix a b;", 0, 1, 0, 0, 0);
    shares(TEN, 0, 1, 2, 3, 4);
    shares("mix a b;mix b c;mix c d;mix d e;mix e a;", 0, 1, 0, 1, 2);
    shares("mix a d;mix b c;mix c d;", 0, 1, 0, 1, 0);
    Bench.due("no KINDS", Bench.told(P3).stores(NONE), 0);
    Bench.due("one KIND", Bench.told(P3 + "kind a rest 1 gas 0;").stores(NONE), 1);
    Bench.terms("of like ones the first by KINDS (STORES numbered as they are first needed).");
    shares("mix d e;", 0, 0, 0, 0, 1);
    shares("mix a e;mix b e;", 0, 0, 0, 0, 1);
    shares("mix b c;", 0, 0, 1, 0, 0);
    shares("mix a c;mix b d;", 0, 0, 1, 1, 0);
    shares("mix a b;mix a c;mix b c;mix c d;", 0, 1, 2, 0, 0);
    shares("mix a c;mix a d;mix c d;mix b d;mix b e;mix e a;", 0, 0, 1, 2, 1);
  }

  private static void bores() {
    Bench.terms("BORES are rows of COLUMN, ROW, KIND and 1 (0 rock).");
    SundayPit x = Bench.told("pit 3 at 0;kind a rest 1 gas 0;kind b rest 1 gas 0;row abx;row xxx;row xxx;");
    Bench.due("all as told", Bench.bores(x, 0, 0, 1, 1, 0, 2, 2, 0, 0), 3);
    Bench.yes("no shift is among them", (x.fits(1) >> 7 & 1) == 1);
    Bench.due("COLUMN 1, ROW 0 is not the first KIND", Bench.bores(x, 1, 0, 1), 1);
    Bench.no("no shift is not", (x.fits(1) >> 7 & 1) == 1);
    Bench.due("COLUMN 0, ROW 1 is rock", Bench.bores(x, 0, 1, 0), 1);
    Bench.yes("no shift is", (x.fits(1) >> 7 & 1) == 1);
  }

  private static int bit(int columns, int rows) { return 1 << 5 * (rows + 1) + columns + 2; }

  private static void fits() {
    Bench.terms("FITS are shifts by which the seam as told lies so: what is told of the CELL so many COLUMNS to the left (-2 .. 2), ROWS up (-1 .. 1) is that;");
    for (int dx = -3; dx <= 3; dx++) {
      for (int dy = -2; dy <= 2; dy++) {
        SundayPit x = Bench.told("pit 8 at 0;kind a rest 1 gas 0;row xxxxxxxx;row xxxxxxxx;row xxxaxxxx;row xxxxxxxx;row xxxxxxxx;");
        Bench.due("one row", Bench.bores(x, 3 + dx, 2 + dy, 1), 1);
        boolean near = Math.abs(dx) <= 2 && Math.abs(dy) <= 1;
        Bench.due("the one CELL, " + dx + " to the right, " + dy + " below", x.fits(1), near ? bit(dx, dy) : 0);
        Bench.due("how many " + dx + " " + dy, x.fits(0), near ? 1 : 0);
        Bench.due("one row of rock", Bench.bores(x, 3 + dx, 2 + dy, 0), 1);
        Bench.due("all but that " + dx + " " + dy, x.fits(1), near ? 32767 - bit(dx, dy) : 32767);
      }
    }
    Bench.terms("beyond the ROWS and COLUMNS is rock.");
    SundayPit full = Bench.told("pit 3 at 0;kind a rest 1 gas 0;row aaa;row aaa;");
    int left = 0, above = 0, right = 0, below = 0;
    for (int dx = -2; dx <= 2; dx++)
      for (int dy = -1; dy <= 1; dy++) {
        if (dx > 0 || dy > 0) left |= bit(dx, dy);
        if (dx < 0 || dy < 0) right |= bit(dx, dy);
        if (dx > 1 || dx < -1 || dy > 0) above |= bit(dx, dy);
        if (dx > 1 || dx < -1 || dy < 0) below |= bit(dx, dy);
      }
    Bench.bores(full, 0, 0, 0);
    Bench.due("rock in the first CELL", full.fits(1), left);
    Bench.bores(full, 2, 1, 0);
    Bench.due("rock in the last CELL", full.fits(1), right);
    Bench.bores(full, 1, 0, 0);
    Bench.due("rock above in the middle", full.fits(1), above);
    Bench.bores(full, 1, 1, 0);
    Bench.due("rock below in the middle", full.fits(1), below);
  }

  private static void next() {
    Bench.terms("NEXT to bore: the CELL by which the most FITS that tell it alike are fewest;");
    SundayPit x = Bench.told("pit 4 at 1;kind s rest 5 gas 10;kind t rest 9 gas 60;row xaxx;row xabx;row aabb;");
    Bench.bores(x, 1, 0, 1);
    Bench.due("two FITS, told apart by", x.next(0), 2);
    Bench.due("one each", x.next(1), 1);
    SundayPit full = Bench.told("pit 5 at 0;kind a rest 1 gas 0;row aaaaa;row aaaaa;");
    Bench.due("of all 15: coal by 8, rock by 7", full.next(0), 1);
    Bench.due("at the most", full.next(1), 8);
    Bench.bores(full, 0, 0, 0, 1, 0, 0, 2, 0, 0, 3, 0, 0, 4, 0, 0);
    Bench.due("a whole ROW of rock: it lies one lower", full.fits(1), bit(-2, 1) + bit(-1, 1) + bit(0, 1) + bit(1, 1) + bit(2, 1));
    Bench.due("of five: coal by 3, rock by 2", full.next(0), 5);
    Bench.due("at the most", full.next(1), 3);
    for (char c = 'a'; c <= 'e'; c++) {
      String row = "row " + String.valueOf(c).repeat(5) + ";";
      SundayPit kinds = Bench.told("pit 5 at 0;" + FIVE + row.repeat(2));
      Bench.due("of KIND " + c + " alone", kinds.next(0), 1);
      Bench.due("of KIND " + c + " at the most", kinds.next(1), 8);
    }
    Bench.terms("of like ones the first.");
    SundayPit rock = Bench.told("pit 3 at 0;row xxx;row xxx;");
    Bench.due("all rock: the first CELL", rock.next(0), 0);
    Bench.due("all rock: all alike", rock.next(1), 15);
    SundayPit one = Bench.told("pit 8 at 0;kind a rest 1 gas 0;" + "row xxxxxxxx;".repeat(2) + "row xxxaxxxx;" + "row xxxxxxxx;".repeat(2));
    Bench.bores(one, 4, 3, 1);
    Bench.due("one FIT: the first CELL", one.next(0), 0);
    Bench.due("one FIT", one.next(1), 1);
    SundayPit lone = Bench.told("pit 8 at 0;kind a rest 1 gas 0;" + "row xxxxxxxx;".repeat(2) + "row xxxaxxxx;" + "row xxxxxxxx;".repeat(2));
    Bench.due("a lone CELL: the first where it may lie", lone.next(0), 8 + 1);
    Bench.due("rock by 14", lone.next(1), 14);
  }

  private static void theft() {
    Bench.terms("THEFT of so much rest: sets of tubs in STORE (how many of each KIND) whose rest together is just that.");
    SundayPit x = Bench.told("pit 3 at 0;kind a rest 2 gas 0;kind b rest 3 gas 0;kind c rest 99 gas 0;row abc;");
    Bench.due("an empty STORE, nothing", x.theft(0, 0), 1);
    Bench.due("an empty STORE, something", x.theft(2, 0), 0);
    Bench.on(x, Bench.with(Bench.with(Bench.with(Bench.image(x), 7, 20), 8, 20), 9, 1));
    for (int n = 0; n <= 200; n++) {
      int sets = 0;
      for (int a = 0; a <= 20; a++) for (int b = 0; b <= 20; b++) for (int c = 0; c <= 1; c++) if (2 * a + 3 * b + 99 * c == n) sets++;
      Bench.due("sets of " + n, x.theft(n, 0), sets);
    }
    Bench.due("all", x.theft(199, 0), 1);
    Bench.due("one more than all", x.theft(200, 0), 0);
    Bench.due("far more", x.theft(Integer.MAX_VALUE, 0), 0);
  }

  private static void houses() {
    Bench.terms("A HOUSE TILTS by the SUM of tilt, 0 .. 9999 (below is 0, above 9999; OPEN and twice the FALLEN ones without);");
    String[] sums = {"0-1", "0", "1", "9998", "9999", "9999+1", "9999*9999", "0-9999*9999"};
    int[] tilts = {0, 0, 1, 9998, 9999, 9999, 9999, 0};
    for (int i = 0; i < sums.length; i++)
      Bench.due("tilt " + sums[i], Bench.told(P3 + "house h at 0;tilt " + sums[i] + ";").house(0, 1), tilts[i]);
    String pit = "pit 5 at 2;" + "row xxxxx;".repeat(3) + "house a at 0;house b at 2;house c at 4;";
    SundayPit x = Bench.worked(pit, "op#.o" + "##o.p" + "....#");
    Bench.due("at the left side: two OPEN, two FALLEN", x.house(0, 1), 2 + 2 * 2);
    Bench.due("in the middle: two OPEN, two FALLEN", x.house(1, 1), 2 + 2 * 2);
    Bench.due("at the right side: two OPEN, one FALLEN", x.house(2, 1), 2 + 2);
    Bench.due("nothing done", Bench.told(pit).house(1, 1), 0);
    Bench.due("without ROWS", Bench.told(P3 + "house h at 0;").house(0, 1), 0);
    Bench.terms("it LEANS, if that is above leans.");
    SundayPit y = Bench.worked("pit 5 at 2;row xxxxx;house h at 2;leans 3;holds 8;", ".oo..");
    Bench.due("below leans", y.house(0, 2), 0);
    y.cut(3);
    Bench.due("at leans", y.house(0, 1), 3);
    Bench.due("at leans", y.house(0, 2), 0);
    SundayPit z = Bench.worked("pit 5 at 2;row xxxxx;house h at 2;leans 3;holds 8;", ".oo#.");
    Bench.due("above leans", z.house(0, 1), 4);
    Bench.due("above leans", z.house(0, 2), 1);
    Bench.due("9999 is above 999", Bench.told(P3 + "house h at 0;tilt 9999;leans 999;").house(0, 2), 1);
    Bench.due("0 is not above 0", Bench.told(P3 + "house h at 0;tilt 0;leans 0;").house(0, 2), 0);
    Bench.due("1 is above 0", Bench.told(P3 + "house h at 0;tilt 1;leans 0;").house(0, 2), 1);
  }
}
