/** The boundary sentences of Terms, IV: the text of a question, and the image. */
final class AskBounds extends Words {
  private static final String PIT = "pit 3 at 1;kind a rest 4 gas 9;kind b rest 7 gas 2;row abx;row bab;";
  private static final String CELLS = ".op" + "#o.";

  private AskBounds() { }

  static void run() {
    heads();
    parts();
    partValues();
    faultOne();
    faultFour();
    image();
  }

  private static SundayPit pit() { return Bench.worked(PIT, CELLS); }

  private static void heads() {
    Bench.terms("A QUESTION is a text, of all CELLS: first TEST, last TEST (the first, the last CELL for which it holds), often TEST (for how many),");
    SundayPit x = pit();
    Bench.answers(x, "first all", 0);
    Bench.answers(x, "last all", 5);
    Bench.answers(x, "often all", 6);
    Bench.answers(x, "first number>0", 1);
    Bench.answers(x, "last number<5", 4);
    Bench.answers(x, "first number=5", 5);
    Bench.answers(x, "last number=0", 0);
    Bench.answers(x, "first open=1 and rest=7", 1);
    Bench.answers(x, "last rest=4", 4);
    Bench.answers(x, "first not all", NONE);
    Bench.answers(x, "last not all", NONE);
    Bench.answers(x, "often not all", 0);
    Bench.answers(x, "often number>4", 1);
    Bench.terms("total SUM (of all together), most SUM, least SUM (the greatest, the least of all; 0 without CELLS).");
    Bench.answers(x, "total number", 15);
    Bench.answers(x, "total 0-number", -15);
    Bench.answers(x, "most number", 5);
    Bench.answers(x, "most 5-number", 5);
    Bench.answers(x, "least number+1", 1);
    Bench.answers(x, "least 5-number", 0);
    Bench.answers(x, "most 0-1-number", -1);
    Bench.answers(x, "least 0-1-number", -6);
    Bench.answers(x, "total 1000*1000", 6000000);
    SundayPit low = pit();
    Bench.answers(low, "total 0-1000*1000", -6000000);
    SundayPit bare = Bench.told(P3);
    Bench.answers(bare, "total 5", 0);
    Bench.answers(bare, "most 5", 0);
    Bench.answers(bare, "least 5", 0);
    Bench.answers(bare, "most 0-5", 0);
    Bench.answers(bare, "often all", 0);
    Bench.answers(bare, "first all", NONE);
    Bench.answers(bare, "last all", NONE);
  }

  private static void parts() {
    Bench.terms("TEST, SUM as in I, but PART: N; number; depth; across; rest; gas; near; span; whole; open; fallen; tubs PART; ( SUM ) ; min ( SUM , SUM ) ; max ( SUM , SUM ) .");
    String parts = " number depth across rest gas near span whole open fallen ";
    for (String w : (OWN + " first last often total most least soft").split(" ")) {
      if (w.equals("min") || w.equals("max") || w.equals("tubs")) continue;
      SundayPit x = pit();
      boolean isPart = parts.contains(" " + w + " ");
      if (isPart) Bench.yes("total 1+" + w, Bench.ask(x, "total 1+" + w) != Bench.NOTHING);
      else Bench.badAsk(x, "total 1+^" + w, 1);
      if (isPart) Bench.yes("often 1=" + w, Bench.ask(x, "often 1=" + w) != Bench.NOTHING);
      else Bench.badAsk(x, "often 1=^" + w, 1);
    }
    SundayPit x = pit();
    Bench.answers(x, "most 9999", 9999);
    Bench.answers(x, "most (2+3)*4", 20);
    Bench.answers(x, "most min(2,3)+max(4,5)", 7);
    Bench.answers(x, "first[number=4 or number=2]and not number=2", 4);
    Bench.answers(x, " \n often\n\nnumber <2 ", 2);
    Bench.badAsk(x, "total 1234^5", 1);
    Bench.badAsk(x, "total tubs 1234^5", 1);
    Bench.badAsk(x, "total tubs^", 1);
    Bench.badAsk(x, "total tubs ^all", 1);
    Bench.badAsk(x, "total tubs ^-1", 1);
    Bench.badAsk(x, "total min(1^)", 1);
    Bench.badAsk(x, "often 1^", 1);
    Bench.badAsk(x, "total ^all", 1);
    Bench.badAsk(x, "total 1^=1", 1);
    Bench.badAsk(x, "first ^", 1);
  }

  private static void partValues() {
    Bench.terms("(The CELL's number; whole, open, fallen 1 if it is so, else 0; tubs in STORE of the KIND of that number, 0 of numbers that there are not.)");
    SundayPit x = pit();
    int[][] want = {{0, 1, 2, 3, 4, 5}, {1, 0, 0, 0, 0, 1}, {0, 1, 1, 0, 1, 0}, {0, 0, 0, 1, 0, 0}};
    String[] words = {"number", "whole", "open", "fallen"};
    for (int w = 0; w < 4; w++) {
      for (int c = 0; c < 6; c++)
        Bench.due(words[w] + " of CELL " + c, Bench.ask(x, "total " + words[w] + "*(1-min(1,max(number-" + c + "," + c + "-number)))"), want[w][c]);
    }
    SundayPit y = Bench.told(PIT + "holds 8;");
    int[] stored = Bench.with(Bench.with(Bench.image(y), 7, 3), 8, 20);
    Bench.yes("three tubs of the first KIND, twenty of the second", Bench.on(y, stored));
    Bench.answers(y, "most tubs 0", 3);
    Bench.answers(y, "most tubs 1", 20);
    Bench.answers(y, "most tubs 2", 0);
    Bench.answers(y, "most tubs 4", 0);
    Bench.answers(y, "most tubs 5", 0);
    Bench.answers(y, "most tubs 9999", 0);
    Bench.answers(y, "most tubs(0-1)", 0);
    Bench.answers(y, "most tubs(0-1000*1000)", 0);
    Bench.answers(y, "most tubs(1000*1000)", 0);
    Bench.answers(y, "total tubs number", 23);
    Bench.answers(y, "most tubs 0*tubs 1+tubs min(0,1)", 63);
    Bench.answers(y, "most tubs tubs 2", 3);
    Bench.answers(y, "most tubs tubs tubs 0", 3);
  }

  private static void faultOne() {
    Bench.terms("Its FAULTS: 1 as in I (an unknown word at its first byte; what stands behind it, too);");
    SundayPit x = pit();
    Bench.badAsk(x, "^", 1);
    Bench.badAsk(x, "  ^", 1);
    Bench.badAsk(x, "^sum 1", 1);
    Bench.badAsk(x, "^firsts all", 1);
    Bench.badAsk(x, "^firs", 1);
    Bench.badAsk(x, "^pit 3 at 0;", 1);
    Bench.badAsk(x, "^7", 1);
    Bench.badAsk(x, "total ^soft", 1);
    Bench.badAsk(x, "total ^a", 1);
    Bench.badAsk(x, "often^", 1);
    Bench.badAsk(x, "often  ^", 1);
    Bench.badAsk(x, "often^1=1", 1);
    SundayPit y = pit();
    Bench.badAsk(y, "total 1^;", 1);
    Bench.badAsk(y, "total 1 ^1", 1);
    Bench.badAsk(y, "often all ^first all", 1);
    Bench.badAsk(y, "often all^]", 1);
    Bench.badAsk(y, "total (1)^)", 1);
    Bench.badAsk(y, "total 1 ^nonsense", 1);
    Bench.badAsk(y, "total 1 ^12345", 1);
    Bench.badAsk(y, "total 1^" + (char) 0, 1);
    Bench.badAsk(y, "total 1^\t", 1);
    Bench.answers(y, "total 1 \n ", 6);
    Bench.badAsk(y, "total tubs^1", 1);
    Bench.badAsk(y, "often 1=1^or all", 1);
  }

  private static void faultFour() {
    Bench.terms("4 the 7th of ( [ not tubs that is open at once (not until its FACT, tubs until its PART ends), at it.");
    for (int deep = 0; deep <= 6; deep++) {
      SundayPit x = pit();
      int more = 6 - deep;
      String ahead = "[".repeat(deep), behind = "]".repeat(deep), nots = "not ".repeat(deep), tubs = "tubs ".repeat(more);
      Bench.due("six are good", Bench.ask(x, "often " + ahead + tubs + "0<9999" + behind), 6);
      Bench.badAsk(x, "often " + ahead + tubs + "^tubs 0=1", 4);
      Bench.badAsk(x, "often " + ahead + tubs + "^(0)=1", 4);
      Bench.due("six are good", Bench.ask(x, "often " + nots + tubs + "0<9999"), deep % 2 == 0 ? 6 : 0);
      Bench.badAsk(x, "often " + nots + tubs + "^tubs 0=1", 4);
      Bench.due("six are good", Bench.ask(x, "total " + "(".repeat(deep) + tubs + "9" + ")".repeat(deep)), deep == 6 ? 54 : 0);
      Bench.badAsk(x, "total " + "(".repeat(deep) + tubs + "^tubs 9", 4);
      Bench.badAsk(x, "total " + "(".repeat(deep) + tubs + "min^(1,2)", 4);
    }
    SundayPit x = pit();
    Bench.badAsk(x, "often not not not not not not ^not all", 4);
    Bench.badAsk(x, "often [[[[[[^[all]]]]]]]", 4);
    Bench.badAsk(x, "total ((((((^(1)))))))", 4);
    Bench.badAsk(x, "often not not not not not not 1=^tubs 1", 4);
    Bench.answers(x, "total " + "tubs 9+".repeat(20) + "tubs 9", 0);
    Bench.answers(x, "total tubs tubs tubs tubs tubs tubs 9+((((((1))))))", 6);
    Bench.answers(x, "total " + "min(0,1)+".repeat(20) + "max(0,1)", 6);
    Bench.badAsk(x, "total tubs tubs tubs tubs tubs tubs min ^1", 1);
    Bench.badAsk(x, "total tubs tubs tubs tubs tubs tubs ^not", 1);
    Bench.answers(x, "often not not not not not not all and tubs 9=0", 6);
    Bench.answers(x, "often " + "not 1=2 and ".repeat(20) + "[all]", 6);
    Bench.answers(x, "total tubs(tubs(tubs 9))+tubs(tubs(tubs 9))", 0);
  }

  private static void image() {
    Bench.terms("AN IMAGE: props left, worth of all tubs cut, rest had (three bytes each, the higher first); for each KIND tubs in STORE; for each CELL 0 WHOLE, 1 cut, 2 propped, 3 FALLEN;");
    SundayPit x = Bench.told("pit 4 at 1;kind a rest 99 gas 0;kind b rest 88 gas 0;row abab;holds 1;props 20;worth 999;");
    x.cut(1);
    x.prop(1);
    x.cut(0);
    x.cut(2);
    x.burn(0);
    x.burn(1);
    int[] want = {19, 0, 2997 >> 8, 2997 & 255, 0, 0, 187, 1, 0, 1, 2, 1, 0};
    Bench.due("bytes", x.image(), 14);
    for (int i = 0; i < want.length; i++) Bench.due("byte " + i, x.octet(i), want[i]);
    x.cut(3);
    Bench.due("bytes", x.image(), 14);
    int[] fell = {1, 2, 3, 3};
    for (int c = 0; c < 4; c++) Bench.due("CELL " + c, x.octet(9 + c), fell[c]);
    int[] high = Bench.with(Bench.with(Bench.image(x), 1, 15), 2, 65);
    high = Bench.with(Bench.with(Bench.with(high, 4, 1), 5, 2), 6, 3);
    Bench.yes("greater numbers", Bench.on(x, high));
    Bench.due("worth, the higher first", x.has(8), 15 * 65536 + 65 * 256 + high[3]);
    Bench.due("rest, the higher first", x.has(9), 65536 + 2 * 256 + 3);
    int[] back = Bench.image(x);
    for (int i = 0; i < high.length; i++) Bench.due("the same byte " + i, back[i], high[i]);
    SundayPit many = Bench.told("pit 8 at 0;kind a rest 1 gas 0;" + "row aaaaaaaa;".repeat(6) + "holds 8;");
    for (int c = 0; c < 48; c++) many.cut(c);
    Bench.due("57 bytes with 48 CELLS", many.image(), 57);
    Bench.due("48 tubs", many.octet(7), 48);
    Bench.due("without KINDS and CELLS", Bench.told(P3).image(), 8);
    Bench.terms("last a byte: all ahead from 223 on, c = (3 c + it) mod 251.");
    SundayPit bare = Bench.told(P3 + "props 0;");
    bare.image();
    Bench.due("of seven zeros: 223 times 3 to the 7, mod 251", bare.octet(7), 223 * 2187 % 251);
    SundayPit five = Bench.told(P3);
    five.image();
    Bench.due("of a 5 and six zeros", five.octet(7), (223 * 2187 + 5 * 729) % 251);
    int[] b = Bench.image(many);
    Bench.due("of 56 bytes", b[56], Bench.guard(b, 56));
    for (int v = 0; v < 256; v++) lastByte(v);
  }

  /** Images that tell a worth of v: the last byte must be the right one, not one that is alike mod 251. */
  private static void lastByte(int v) {
    SundayPit y = Bench.told(P3 + "props 20;");
    int[] b = {v % 21, 0, 0, v, 0, 0, 255 - v, 0};
    int right = Bench.guard(b, 7);
    b[7] = (right + 1) % 251;
    Bench.no("a wrong last byte " + v, Bench.on(y, b));
    b[7] = right + 251;
    if (b[7] < 256) Bench.no("the same mod 251 only " + v, Bench.on(y, b));
    b[7] = right;
    Bench.yes("the right last byte " + v, Bench.on(y, b));
    Bench.due("it is no CELL " + v, y.has(10) + y.has(11), 0);
  }
}
