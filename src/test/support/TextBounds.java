/** The boundary sentences of Terms, I: the text of a pit. */
final class TextBounds extends Words {
  private TextBounds() { }

  static void run() {
    statements();
    pitStatement();
    kindStatement();
    rowStatement();
    houseStatement();
    mixStatement();
    onceStatements();
    settings();
    tests();
    sums();
    parts();
    facts();
    arithmetic();
    names();
    blanks();
    faultOne();
    faultTwo();
    faultThree();
    faultFour();
    faultFive();
    firstAlong();
  }

  private static void statements() {
    Bench.terms("A PIT is a text: { STATEMENT ; } (60 at most)");
    Bench.good(P3 + "holds 1;".repeat(58), 59);
    Bench.good(P3 + "holds 1;".repeat(59), 60);
    Bench.good(P3 + "holds 1;".repeat(59) + "\n  ", 60);
    Bench.bad(P3 + "holds 1;".repeat(59) + "^holds 1;", 5);
    Bench.bad("pit 3 at 0^", 1);
    Bench.bad(P3 + "holds 1;holds 2^", 1);
    Bench.bad(P3 + "^;", 1);
    Bench.bad("^;" + P3, 1);
  }

  private static void pitStatement() {
    Bench.terms("pit N at N (3 .. 8 COLUMNS; the one of the shaft; the first STATEMENT, and it alone)");
    for (int n = 0; n < 12; n++) {
      if (n < 3 || n > 8) { Bench.bad("pit ^" + n + " at 0;", 2); continue; }
      Bench.due("COLUMNS", Bench.told("pit " + n + " at 0;").has(0), n);
      Bench.bad("pit " + n + " at ^" + n + ";", 2);
      for (int shaft = 0; shaft < n; shaft++) {
        SundayPit x = Bench.told("pit " + n + " at " + shaft + ";row " + "x".repeat(n) + ";");
        for (int c = 0; c < n; c++) Bench.due("shaft " + shaft + " of " + n + ", CELL " + c, x.cell(c, 5), c == shaft ? 0 : 2);
      }
    }
    String[] others = {"kind a rest 1 gas 0", "row xxx", "house h at 0", "mix a b", "may all", "worth 1", "tilt 1", "holds 1", "props 1", "leans 1"};
    for (String s : others) Bench.bad("^" + s + ";" + P3, 1);
    Bench.bad(P3 + "^pit 3 at 0;", 1);
    Bench.bad(P3 + "row xxx;^pit 3 at 0;", 1);
  }

  private static void kindStatement() {
    Bench.terms("kind NAME rest N gas N (1 .. 99; 0 .. 99; 5 KINDS, all ahead of the first ROW)");
    Bench.bad(P3 + "kind a rest ^0 gas 0;", 2);
    Bench.bad(P3 + "kind a rest ^100 gas 0;", 2);
    Bench.bad(P3 + "kind a rest 1 gas ^100;", 2);
    int[][] edges = {{1, 0}, {99, 99}, {1, 99}, {99, 0}};
    for (int[] e : edges) {
      SundayPit x = Bench.told(P3 + "kind a rest " + e[0] + " gas " + e[1] + ";");
      Bench.due("rest", x.kind(0, 0), e[0]);
      Bench.due("gas", x.kind(0, 1), e[1]);
    }
    Bench.due("five KINDS", Bench.told(P3 + FIVE).has(2), 5);
    Bench.bad(P3 + FIVE + "^kind f rest 1 gas 0;", 5);
    Bench.bad(P3 + "row xxx;^kind a rest 1 gas 0;", 5);
    Bench.bad(P3 + "kind a rest 1 gas 0;row xax;^kind b rest 1 gas 0;", 5);
    Bench.good(P3 + "house h at 0;holds 1;kind a rest 1 gas 0;row xxa;", 5);
  }

  private static void rowStatement() {
    Bench.terms("row CELLS (as many letters as there are COLUMNS: a, b, .. the KINDS as told, x rock; 6 ROWS, from above)");
    for (int n = 3; n <= 8; n++) {
      String pit = "pit " + n + " at 0;row ";
      Bench.good(pit + "x".repeat(n) + ";", 2);
      Bench.bad(pit + "^" + "x".repeat(n - 1) + ";", 1);
      Bench.bad(pit + "^" + "x".repeat(n + 1) + ";", 1);
    }
    for (int kinds = 0; kinds <= 5; kinds++) {
      String told = P3 + FIVE.substring(0, kinds * (FIVE.length() / 5));
      for (char c = 'a'; c <= 'z'; c++) {
        if (c - 'a' < kinds || c == 'x') {
          SundayPit x = Bench.told(told + "row xx" + c + ";");
          Bench.due("KIND of " + c, x.cell(2, 0), c == 'x' ? NONE : c - 'a');
        } else {
          Bench.bad(told + "row ^xx" + c + ";", 1);
        }
      }
    }
    SundayPit named = Bench.told(P3 + "kind b rest 7 gas 0;kind a rest 9 gas 0;row abx;");
    Bench.due("a is the KIND told first, whatever its NAME", named.cell(0, 6), 7);
    Bench.due("b is the second", named.cell(1, 6), 9);
    SundayPit six = Bench.told(P3 + "row xxx;".repeat(6));
    Bench.due("six ROWS", six.has(1), 6);
    Bench.bad(P3 + "row xxx;".repeat(6) + "^row xxx;", 5);
    SundayPit above = Bench.told(P3 + "kind a rest 1 gas 0;row axx;row xxx;");
    Bench.due("the first ROW is above", above.cell(0, 0), 0);
    Bench.due("the second is below", above.cell(3, 0), NONE);
  }

  private static void houseStatement() {
    Bench.terms("house NAME at N (a COLUMN; 6 HOUSES)");
    for (int n = 3; n <= 8; n++) {
      String pit = "pit " + n + " at 0;";
      Bench.due("the first COLUMN", Bench.told(pit + "house h at 0;").house(0, 0), 0);
      Bench.due("the last COLUMN", Bench.told(pit + "house h at " + (n - 1) + ";").house(0, 0), n - 1);
      Bench.bad(pit + "house h at ^" + n + ";", 2);
    }
    String six = P3 + "house a at 0;house b at 1;house c at 2;house d at 0;house e at 1;house f at 2;";
    Bench.due("six HOUSES", Bench.told(six).has(3), 6);
    Bench.due("the sixth", Bench.told(six).house(5, 0), 2);
    Bench.bad(six + "^house g at 0;", 5);
  }

  private static void mixStatement() {
    Bench.terms("mix NAME NAME (two unlike KINDS, not told already, either way round: they must not meet; 10 MIXES)");
    Bench.bad(P3 + FIVE + "mix a ^a;", 3);
    Bench.bad(P3 + FIVE + "mix a b;mix a ^b;", 3);
    Bench.bad(P3 + FIVE + "mix a b;mix b ^a;", 3);
    Bench.bad(P3 + FIVE + "mix e d;mix a c;mix d ^e;", 3);
    SundayPit x = Bench.told(P3 + FIVE + "mix d b;");
    Bench.due("d must not meet b", x.kind(3, 3), 2);
    Bench.due("nor b d", x.kind(1, 3), 8);
    Bench.due("two STORES", x.stores(NONE), 2);
    SundayPit all = Bench.told(P3 + FIVE + TEN);
    Bench.due("ten MIXES", all.has(4), 10);
    for (int k = 0; k < 5; k++) Bench.due("all the others", all.kind(k, 3), 31 - (1 << k));
    Bench.bad(P3 + FIVE + TEN + "^mix a b;", 5);
  }

  private static void onceStatements() {
    Bench.terms("may TEST, worth SUM, tilt SUM (one each)");
    Bench.good(P3 + "may all;worth 1;tilt 1;", 4);
    Bench.bad(P3 + "may all;^may all;", 5);
    Bench.bad(P3 + "worth 1;^worth 1;", 5);
    Bench.bad(P3 + "tilt 1;^tilt 1;", 5);
    Bench.bad(P3 + "may all;worth 1;tilt 1;^may 1=1;", 5);
    Bench.bad(P3 + "may 1^;", 1);
    Bench.bad(P3 + "worth ^all;", 1);
    Bench.bad(P3 + "tilt ^all;", 1);
    SundayPit x = Bench.told(P3 + "kind a rest 1 gas 0;row aaa;house h at 0;tilt 2;worth 3;may 1=2;");
    Bench.due("may", x.cell(0, 5), 3);
    Bench.due("worth", x.cell(0, 6), 3);
    Bench.due("tilt", x.house(0, 1), 2);
  }

  private static void settings() {
    Bench.terms("holds N (1 .. 8), props N (0 .. 20), leans N (0 .. 999): the last one of each counts (3, 5, 10 without)");
    Bench.bad(P3 + "holds ^0;", 2);
    Bench.bad(P3 + "holds ^9;", 2);
    Bench.bad(P3 + "props ^21;", 2);
    Bench.bad(P3 + "leans ^1000;", 2);
    for (int n = 1; n <= 8; n++) Bench.due("holds", Bench.told(P3 + "holds " + n + ";").has(5), n);
    for (int n = 0; n <= 20; n++) Bench.due("props", Bench.told(P3 + "props " + n + ";").has(6), n);
    int[] leans = {0, 1, 10, 998, 999};
    for (int n : leans) {
      Bench.due("at leans " + n, Bench.told(P3 + "house h at 0;leans " + n + ";tilt " + n + ";").house(0, 2), 0);
      Bench.due("above leans " + n, Bench.told(P3 + "house h at 0;leans " + n + ";tilt " + (n + 1) + ";").house(0, 2), 1);
    }
    SundayPit last = Bench.told(P3 + "holds 8;holds 2;props 1;props 20;props 7;leans 0;leans 4;house h at 0;tilt 4;");
    Bench.due("the last holds", last.has(5), 2);
    Bench.due("the last props", last.has(6), 7);
    Bench.due("the last leans", last.house(0, 2), 0);
    SundayPit without = Bench.told(P3 + "house h at 0;tilt 10;");
    Bench.due("holds without", without.has(5), 3);
    Bench.due("props without", without.has(6), 5);
    Bench.due("10 is not above leans", without.house(0, 2), 0);
    Bench.due("11 is", Bench.told(P3 + "house h at 0;tilt 11;").house(0, 2), 1);
    SundayPit again = Bench.told(P3 + "holds 8;props 20;leans 999;");
    Bench.pit(again, P3 + "house h at 0;tilt 11;");
    Bench.due("nothing stays of another pit: holds", again.has(5), 3);
    Bench.due("props", again.has(6), 5);
    Bench.due("leans", again.house(0, 2), 1);
  }

  private static void tests() {
    Bench.terms("TEST: BOTH { or BOTH }. BOTH: FACT { and FACT }.");
    holds("1=1 or 1=1 and 1=2", true);
    holds("1=2 and 1=1 or 1=1", true);
    holds("1=2 and 1=2 or 1=2", false);
    holds("1=2 or 1=2 or 1=1", true);
    holds("1=1 and 1=1 and 1=2", false);
    holds("1=1 and 1=1 and 1=1", true);
    Bench.bad(P3 + "may all or^;", 1);
    Bench.bad(P3 + "may all and^;", 1);
    Bench.bad(P3 + "may ^or all;", 1);
    Bench.bad(P3 + "may all ^all;", 1);
    Bench.terms("FACT: not FACT; [ TEST ] ; all; SUM SIGN SUM, SIGN < or > or = .");
    holds("all", true);
    holds("not all", false);
    holds("not not all", true);
    holds("not 1=2 and 1=2", false);
    holds("not 1=1 or 1=1", true);
    holds("not [1=1 or 1=1]", false);
    holds("[1=1 or 1=1] and 1=2", false);
    holds("[[all]]", true);
    holds("1<2", true);
    holds("2<2", false);
    holds("3<2", false);
    holds("3>2", true);
    holds("2>2", false);
    holds("1>2", false);
    holds("2=2", true);
    holds("2=3", false);
    holds("1+1=4/2", true);
    Bench.bad(P3 + "may [^];", 1);
    Bench.bad(P3 + "may [all^;", 1);
    Bench.bad(P3 + "may all^];", 1);
    Bench.bad(P3 + "may 1=2^=3;", 1);
    Bench.bad(P3 + "may 1<^=3;", 1);
    Bench.bad(P3 + "may 1=^;", 1);
    Bench.bad(P3 + "may (^all);", 1);
    Bench.bad(P3 + "may (1^=1);", 1);
    Bench.bad(P3 + "may [1^];", 1);
  }

  private static void sums() {
    Bench.terms("SUM: PRODUCT { + or - PRODUCT }. PRODUCT: PART { * or / PART }.");
    gives("2+3*4", 14);
    gives("2*3+4", 10);
    gives("20-12/4", 17);
    gives("20/4-2", 3);
    Bench.bad(P3 + "worth ^-1;", 1);
    Bench.bad(P3 + "worth ^+1;", 1);
    Bench.bad(P3 + "worth 1+^;", 1);
    Bench.bad(P3 + "worth 1*^*1;", 1);
    Bench.bad(P3 + "worth 1/^;", 1);
    Bench.bad(P3 + "worth ^;", 1);
    Bench.terms("All from the left on;");
    gives("10-3-2", 5);
    gives("10-3+2", 9);
    gives("100/7*7", 98);
    gives("100/7/7", 2);
    gives("7*100/8", 87);
  }

  private static void parts() {
    Bench.terms("PART: N (1 to 4 digits); ( SUM ) ; min ( SUM , SUM ) ; max ( SUM , SUM ) ;");
    gives("7", 7);
    gives("07", 7);
    gives("0007", 7);
    gives("9999", 9999);
    gives("0", 0);
    Bench.bad(P3 + "worth 1234^5;", 1);
    Bench.bad(P3 + "worth 0000^0;", 1);
    Bench.bad(P3 + "tilt 1234^5;", 1);
    Bench.bad(P3 + "may 1=1234^5;", 1);
    gives("(2+3)*4", 20);
    gives("((2))", 2);
    gives("min(2,3)", 2);
    gives("min(3,2)", 2);
    gives("max(2,3)", 3);
    gives("max(3,2)", 3);
    gives("min(0-2,0-3)", -3);
    gives("max(1+1,min(5,2*2))*10", 40);
    Bench.bad(P3 + "worth (1^;", 1);
    Bench.bad(P3 + "worth (^);", 1);
    Bench.bad(P3 + "worth min^;", 1);
    Bench.bad(P3 + "worth min ^1;", 1);
    Bench.bad(P3 + "worth min(1^);", 1);
    Bench.bad(P3 + "worth min(1,2^;", 1);
    Bench.bad(P3 + "worth max(1,2^,3);", 1);
    Bench.bad(P3 + "worth max(^,2);", 1);
    Bench.bad(P3 + "worth (1^,2);", 1);
    Bench.terms("in may and worth: depth; across; rest; gas; near; span; in tilt: open; fallen; across.");
    String cell = " depth across rest gas near span ", house = " open fallen across ";
    for (String w : (OWN + " first last often total most least soft").split(" ")) {
      boolean opens = w.equals("min") || w.equals("max");
      if (opens) continue;
      word("worth 1+", w, cell.contains(" " + w + " "));
      word("may 1=", w, cell.contains(" " + w + " "));
      word("tilt 1+", w, house.contains(" " + w + " "));
    }
  }

  private static void word(String ahead, String w, boolean isPart) {
    if (isPart) Bench.good(P3 + ahead + w + ";", 2);
    else Bench.bad(P3 + ahead + "^" + w + ";", 1);
  }

  private static void facts() {
    Bench.terms("(Of a CELL its ROW, its COLUMN, rest and gas of its KIND (0 of rock), how many CELLS beside it (four ways) are OPEN, its SPAN;");
    String pit = "pit 4 at 0;kind a rest 6 gas 8;row aaaa;row axaa;row aaaa;worth ";
    String cells = "opo." + "o.p#" + ".o..";
    int[][] want = {
        {0, 0, 0, 0, 1, 1, 1, 1, 2, 2, 2, 2},
        {0, 1, 2, 3, 0, 1, 2, 3, 0, 1, 2, 3},
        {6, 6, 6, 6, 6, 0, 6, 6, 6, 6, 6, 6},
        {8, 8, 8, 8, 8, 0, 8, 8, 8, 8, 8, 8},
        {2, 2, 2, 1, 1, 4, 1, 1, 2, 0, 2, 0},
        {1, 3, 1, 2, 1, 2, 1, 1, 2, 1, 2, 1}};
    String[] words = {"depth", "across", "rest", "gas", "near", "span"};
    for (int w = 0; w < words.length; w++) {
      SundayPit x = Bench.worked(pit + words[w] + ";", cells);
      for (int c = 0; c < 12; c++) {
        if (c != 5) Bench.due(words[w] + " of CELL " + c + " in worth", x.cell(c, 6), want[w][c]);
        Bench.due(words[w] + " of CELL " + c, Bench.ask(x, "total " + words[w] + "*(1-min(1,max(number-" + c + "," + c + "-number)))"), want[w][c]);
      }
    }
    SundayPit rock = Bench.worked("pit 3 at 1;row xxx;may rest=0 and gas=0;", "...");
    Bench.due("rest and gas of rock are 0 in may", rock.cell(1, 5), 0);
    Bench.terms("of a HOUSE how many CELLS in its COLUMN and those beside that one are OPEN, are FALLEN, its COLUMN.)");
    String houses = "pit 4 at 0;row xxxx;row xxxx;house a at 0;house b at 1;house c at 2;house d at 3;tilt ";
    int[][] tilts = {{2, 3, 2, 1}, {1, 2, 3, 2}, {0, 1, 2, 3}};
    String[] of = {"open", "fallen", "across"};
    for (int w = 0; w < 3; w++) {
      SundayPit x = Bench.worked(houses + of[w] + ";", "op##" + ".#o.");
      for (int h = 0; h < 4; h++) Bench.due(of[w] + " of HOUSE " + h, x.house(h, 1), tilts[w][h]);
    }
  }

  private static void arithmetic() {
    Bench.terms("/ gives the greatest whole number not above, by 0 it gives 0;");
    gives("6/3", 2);
    gives("7/2", 3);
    gives("(0-7)/2", -4);
    gives("7/(0-2)", -4);
    gives("(0-7)/(0-2)", 3);
    gives("(0-6)/3", -2);
    gives("6/(0-3)", -2);
    gives("1/2", 0);
    gives("(0-1)/2", -1);
    gives("(0-1)/9999", -1);
    gives("5/0", 0);
    gives("0/0", 0);
    gives("(0-5)/0", 0);
    gives("5/(3-3)+1", 1);
    Bench.terms("each sum, difference, product above 10 to the 6 is that, below -10 to the 6 likewise.");
    gives("1000*1000", 1000000);
    gives("999*1001-1", 999998);
    gives("1000*1000-1", 999999);
    gives("1001*1000-1", 999999);
    gives("9999*9999", 1000000);
    gives("9999*9999*9999-1", 999999);
    gives("1000*1000+1", 1000000);
    gives("1000*1000+1-1", 999999);
    gives("999*1001+1-1", 999999);
    gives("1000*1000-(0-1)-1", 999999);
    gives("0-1000*1000", -1000000);
    gives("0-1000*1000-1", -1000000);
    gives("0-1000*1000-1+1", -999999);
    gives("0-1000*1000+(0-1)+1", -999999);
    gives("(0-1001)*1000+1", -999999);
    gives("1001*(0-1000)+1", -999999);
    gives("(0-9999)*9999*9999", -1000000);
    gives("(0-9999)*9999*(0-9999)", 1000000);
  }

  private static void names() {
    Bench.terms("NAMES: 1 to 6 letters, no OWN WORD, unlike ones (of all sorts).");
    String[] good = {"a", "x", "z", "ab", "abcdef", "zzzzzz", "pits", "pi", "falle", "first", "last", "often", "total", "most", "least"};
    for (String n : good) {
      Bench.good(P3 + "kind " + n + " rest 1 gas 0;", 2);
      Bench.good(P3 + "house " + n + " at 0;", 2);
      Bench.good(P3 + "kind " + n + " rest 1 gas 0;kind other rest 1 gas 0;mix other " + n + ";", 4);
    }
    Bench.bad(P3 + "kind ^rest 1 gas 0;", 1);
    Bench.bad(P3 + "kind ^;", 1);
    Bench.bad(P3 + "kind abcdef^g rest 1 gas 0;", 1);
    Bench.bad(P3 + "kind ^7 rest 1 gas 0;", 1);
    Bench.bad(P3 + "kind a^B rest 1 gas 0;", 1);
    Bench.bad(P3 + "kind ^A rest 1 gas 0;", 1);
    String kind = "kind a rest 1 gas 0;";
    Bench.bad(P3 + kind + "kind ^a rest 1 gas 0;", 3);
    Bench.bad(P3 + "house a at 0;house ^a at 1;", 3);
    Bench.bad(P3 + kind + "house ^a at 0;", 3);
    Bench.bad(P3 + "house a at 0;kind ^a rest 1 gas 0;", 3);
    Bench.good(P3 + kind + "kind aa rest 1 gas 0;house aaa at 0;kind ab rest 1 gas 0;house b at 0;", 6);
    Bench.terms("OWN WORDS: pit, at, kind, rest, gas, row, house, mix, may, worth, tilt, holds, props, leans, depth, across, near, span, open, fallen, whole, number, tubs, or, and, not, all, min, max.");
    Bench.due("how many", OWN.split(" ").length, 29);
    for (String w : OWN.split(" ")) {
      Bench.bad(P3 + "kind ^" + w + " rest 1 gas 0;", 1);
      Bench.bad(P3 + "house ^" + w + " at 0;", 1);
      Bench.bad(P3 + kind + "mix ^" + w + " a;", 1);
      Bench.bad(P3 + kind + "mix a ^" + w + ";", 1);
    }
  }

  private static void blanks() {
    Bench.terms("Blanks (10, 32) are where one likes (words and numbers side by side need one).");
    for (int b = 0; b < 256; b++) {
      char c = (char) b;
      if (c == '^') continue;
      boolean blank = b == 10 || b == 32, letter = c >= 'a' && c <= 'z';
      if (blank) Bench.good("pit" + c + "3 at 0;", 1);
      else if (letter) Bench.bad("^pit" + c + "3 at 0;", 1);
      else Bench.bad("pit^" + c + "3 at 0;", 1);
      if (blank) Bench.good(P3 + c, 1);
      else Bench.bad(P3 + "^" + c, 1);
    }
    Bench.good("\n \n  pit\n\n3 at\n0 ;\n kind  a\nrest 1   gas 0\n;row \n aax\n; may [ all ] and ( 1 ) < min ( 2 , 3 ) ; \n", 4);
    Bench.good("pit 3 at 0;worth(1)+2*min(1,2)/3;may[1=1]and[2=2]or not[1<2];", 3);
    Bench.bad("pit^3 at 0;", 1);
    Bench.bad("pit 3^at 0;", 1);
    Bench.bad("pit 3 at^0;", 1);
    Bench.bad(P3 + "kind a^1 rest 1 gas 0;", 1);
    Bench.bad(P3 + "kind a rest^1 gas 0;", 1);
    Bench.bad(P3 + "kind a rest 1^gas 0;", 1);
    Bench.bad(P3 + "holds^1;", 1);
    Bench.bad(P3 + "row xxx^1;", 1);
    Bench.bad(P3 + "may 1=1^and all;", 1);
    Bench.bad(P3 + "worth 2^depth;", 1);
    Bench.bad(P3 + "worth depth^2;", 1);
    Bench.bad(P3 + "worth 1 ^2;", 1);
    Bench.bad(P3 + "row ^x xx;", 1);
  }

  private static void faultOne() {
    Bench.terms("FAULTS, the first along the text: 1 the first byte with which no such text goes on (words and numbers whole, at their first byte;");
    Bench.bad("^x;", 1);
    Bench.bad("^pitt 3 at 0;", 1);
    Bench.bad("^pi", 1);
    Bench.bad("^PIT 3 at 0;", 1);
    Bench.bad("^3", 1);
    Bench.bad("pit ^x;", 1);
    Bench.bad("pit 3 ^att 0;", 1);
    Bench.bad("pit 3 ^a", 1);
    Bench.bad("pit 3 ^3;", 1);
    Bench.bad("pit 3 ^12345;", 1);
    Bench.bad("pit 3 at ^at;", 1);
    Bench.bad(P3 + "^kinds a rest 1 gas 0;", 1);
    Bench.bad(P3 + "^first;", 1);
    Bench.bad(P3 + "^12;", 1);
    Bench.bad(P3 + "kind a ^gas 1;", 1);
    Bench.bad(P3 + "kind a rest 1 ^rest 1;", 1);
    Bench.bad(P3 + "kind a rest 1 gas 0 ^row;", 1);
    Bench.bad(P3 + "holds 1 ^2345;", 1);
    Bench.bad(P3 + "may ^nothing;", 1);
    Bench.bad(P3 + "may all ^ore all;", 1);
    Bench.bad(P3 + "worth depth ^depth;", 1);
    Bench.terms("where a NAME is asked, an OWN WORD so, a 7th letter at itself;");
    Bench.bad(P3 + "kind ^fallen rest 1 gas 0;", 1);
    Bench.bad(P3 + "kind fallen^s rest 1 gas 0;", 1);
    Bench.bad(P3 + "kind abcdef^ghi", 1);
    Bench.bad(P3 + "house abcdef^g at 0;", 1);
    Bench.bad(P3 + "house ^at at 0;", 1);
    Bench.bad(P3 + "mix abcdef^g a;", 1);
    Bench.bad(P3 + "kind a rest 1 gas 0;mix a abcdef^g;", 1);
    Bench.bad(P3 + "kind a rest 1 gas 0;mix a ^row;", 1);
    Bench.terms("CELLS whole, at their first byte;");
    Bench.bad(P3 + "row ^xxy;", 1);
    Bench.bad(P3 + "row ^xx;", 1);
    Bench.bad(P3 + "row ^xxxx;", 1);
    Bench.bad(P3 + "row ^xx", 1);
    Bench.bad(P3 + "row ^axx;", 1);
    Bench.bad(P3 + "row ^xx1;", 1);
    Bench.bad(P3 + "row ^;", 1);
    Bench.bad(P3 + "row ^111;", 1);
    Bench.bad(P3 + "row ^" + "x".repeat(900) + ";", 1);
    Bench.terms("where a number is asked, a 5th digit at itself;");
    Bench.bad("pit 0000^3 at 0;", 1);
    Bench.bad("pit 1234^56 at 0;", 1);
    Bench.bad("pit 3 at 0000^0;", 1);
    Bench.bad(P3 + "kind a rest 0000^1 gas 0;", 1);
    Bench.bad(P3 + "kind a rest 1 gas 0000^0;", 1);
    Bench.bad(P3 + "house h at 0000^0;", 1);
    Bench.bad(P3 + "holds 0000^1;", 1);
    Bench.bad(P3 + "props 9999^9;", 1);
    Bench.bad(P3 + "leans 0000^0", 1);
    Bench.good("pit 0003 at 0000;kind a rest 0001 gas 0000;house h at 0002;holds 0008;props 0020;leans 0999;", 6);
    Bench.terms("at the text's length, if it ends too soon);");
    String whole = "pit 3 at 0 ; kind a rest 1 gas 0 ; row aax ; house h at 0 ; may not [ all or 1 < ( 2 ) ] ; worth min ( 1 , 2 ) ; ";
    int statements = 0;
    for (int i = 0; i < whole.length(); i++) {
      if (whole.charAt(i) != ' ') continue;
      String text = whole.substring(0, i);
      if (text.endsWith(";")) { statements++; Bench.good(text, statements); Bench.good(text + " ", statements); continue; }
      Bench.bad(text + "^", 1);
      Bench.bad(text + " \n^", 1);
    }
    Bench.bad("^", 1);
    Bench.bad(" ^", 1);
  }

  private static void faultTwo() {
    Bench.terms("2 a number that can't be, at it;");
    Bench.bad("pit ^2", 2);
    Bench.bad("pit ^9999", 2);
    Bench.bad("pit ^0 at 0;", 2);
    Bench.bad("pit 3 at ^3", 2);
    Bench.bad("pit 3 at ^9999;", 2);
    Bench.bad(P3 + "kind a rest ^0", 2);
    Bench.bad(P3 + "kind a rest 1 gas ^100", 2);
    Bench.bad(P3 + "house h at   ^0003;", 2);
    Bench.bad(P3 + "holds ^0", 2);
    Bench.bad(P3 + "props ^21", 2);
    Bench.bad(P3 + "leans ^1000", 2);
  }

  private static void faultThree() {
    String two = P3 + "kind a rest 1 gas 0;kind b rest 1 gas 0;house h at 0;";
    Bench.terms("3 a NAME to be given that is there already,");
    Bench.bad(two + "kind ^b", 3);
    Bench.bad(two + "kind ^h rest 1 gas 0;", 3);
    Bench.bad(two + "house ^h", 3);
    Bench.bad(two + "house ^a at 0;", 3);
    String many = P3 + FIVE + "house f at 0;house g at 0;house h at 0;house i at 0;house jklmno at 0;house ^";
    for (String name : "a b c d e f g h i jklmno".split(" ")) Bench.bad(many + name, 3);
    for (String name : "jklmn jklmnp k aa".split(" ")) Bench.good((many + name).replace("^", "") + " at 0;", 12);
    Bench.terms("one that is none of what is asked,");
    Bench.bad(two + "mix ^c a;", 3);
    Bench.bad(two + "mix a ^c;", 3);
    Bench.bad(two + "mix ^h a;", 3);
    Bench.bad(two + "mix a ^h;", 3);
    Bench.bad(P3 + "mix ^a b;kind a rest 1 gas 0;kind b rest 1 gas 0;", 3);
    Bench.bad(two + "mix ^aa b;", 3);
    Bench.terms("a MIX that can't be (the same KIND, one told already; at its second NAME), at it;");
    Bench.bad(two + "mix b ^b", 3);
    Bench.bad(two + "mix a b;mix a ^b", 3);
    Bench.bad(two + "mix b a;mix a ^b;", 3);
    Bench.good(two + "kind c rest 1 gas 0;mix a b;mix b c;mix c a;", 8);
  }

  private static void faultFour() {
    Bench.terms("4 the 7th of ( [ not that is open at once (not until its FACT ends), at it;");
    for (int deep = 0; deep <= 6; deep++) {
      String ahead = "[".repeat(deep), behind = "]".repeat(deep);
      String nots = "not ".repeat(deep);
      int more = 6 - deep;
      Bench.good(P3 + "may " + ahead + "(".repeat(more) + "1" + ")".repeat(more) + "=1" + behind + ";", 2);
      Bench.bad(P3 + "may " + ahead + "(".repeat(more) + "^(1", 4);
      Bench.good(P3 + "may " + nots + "(".repeat(more) + "1" + ")".repeat(more) + "=1;", 2);
      Bench.bad(P3 + "may " + nots + "(".repeat(more) + "^(1", 4);
      Bench.good(P3 + "may " + nots + "[".repeat(more) + "all" + "]".repeat(more) + ";", 2);
      Bench.bad(P3 + "may " + nots + "[".repeat(more) + "^[all", 4);
      Bench.bad(P3 + "may " + nots + "[".repeat(more) + "^not all", 4);
    }
    Bench.bad(P3 + "may not not not not not not 1=^(1);", 4);
    Bench.bad(P3 + "may not not not not not not all and not not not not not not ^not all;", 4);
    Bench.bad(P3 + "worth ((((((^(1)))))));", 4);
    Bench.bad(P3 + "tilt ((((((^(1)))))));", 4);
    Bench.bad(P3 + "worth max(min(max(min(max(min(min^(1,2),3),4),5),6),7),8);", 4);
    Bench.bad(P3 + "worth max(1,max(2,max(3,max(4,max(5,max(6,^(7)))))));", 4);
    Bench.good(P3 + "worth max(min(max(min(max(min(1,2),3),4),5),6),7);tilt ((((((1))))));may [[[[[[all]]]]]];", 4);
    Bench.good(P3 + "may " + "not all and ".repeat(20) + "not all;", 2);
    Bench.good(P3 + "may " + "[all] or ".repeat(20) + "[all];", 2);
    Bench.good(P3 + "worth " + "(1)+".repeat(20) + "(1);", 2);
    Bench.good(P3 + "worth " + "min(1,2)+".repeat(20) + "max(1,2);", 2);
    Bench.bad(P3 + "worth ((((((min ^1", 1);
    Bench.bad(P3 + "worth ((((((max^;", 1);
    Bench.bad(P3 + "worth ((((((^[", 1);
    Bench.bad(P3 + "worth ((((((^not", 1);
    Bench.good(P3 + "may not not not not not not 1=1 and (1)=(1);", 2);
    Bench.good(P3 + "may [not not not not not all and not not not not not all] or [[[[[[all]]]]]];", 2);
  }

  private static void faultFive() {
    Bench.terms("5 one too many of a kind (a KIND behind a ROW, a second may, worth, tilt, too),");
    Bench.bad(P3 + FIVE + "^kind", 5);
    Bench.bad(P3 + "row xxx;^kind", 5);
    Bench.bad(P3 + "row xxx;".repeat(6) + " \n^row", 5);
    Bench.bad(P3 + "house a at 0;house b at 0;house c at 0;house d at 0;house e at 0;house f at 0;^house", 5);
    Bench.bad(P3 + FIVE + TEN + "^mix", 5);
    Bench.bad(P3 + "may all;^may", 5);
    Bench.bad(P3 + "worth 1;^worth", 5);
    Bench.bad(P3 + "tilt 1;^tilt", 5);
    Bench.terms("a 61st STATEMENT (whatever stands there), at its first byte.");
    String sixty = P3 + "props 5;".repeat(59);
    Bench.bad(sixty + "^props 5;", 5);
    Bench.bad(sixty + "^pit 3 at 0;", 5);
    Bench.bad(sixty + " \n ^?", 5);
    Bench.bad(sixty + "^;", 5);
    Bench.bad(sixty + "^77777", 5);
    Bench.bad(sixty + "^nonsense", 5);
    Bench.bad(sixty + "^" + (char) 0, 5);
    Bench.good(sixty, 60);
    Bench.good(sixty + " \n", 60);
  }

  private static void firstAlong() {
    Bench.terms("FAULTS, the first along the text:");
    Bench.bad("pit ^9 at 9;?", 2);
    Bench.bad("pit 3 ^? 9;pit", 1);
    Bench.bad(P3 + "kind a rest ^0 gas 100;", 2);
    Bench.bad(P3 + "mix ^c c;", 3);
    Bench.bad(P3 + FIVE + "^kind a rest 0 gas 100;", 5);
    Bench.bad(P3 + "may all;^may (((((((1;", 5);
    Bench.bad(P3 + "holds ^9;" + "holds 1;".repeat(70), 2);
    Bench.bad(P3 + "may ((((((^(?", 4);
  }

  // ---- what a formula gives

  /** The same in may and in a question. */
  private static void holds(String test, boolean want) {
    SundayPit x = Bench.told(P3 + "row xxx;may " + test + ";");
    Bench.due("may " + test, x.cell(0, 5), want ? 0 : 3);
    Bench.answers(x, "often " + test, want ? 3 : 0);
  }

  /** The same in worth, in tilt, in may and in a question. */
  private static void gives(String sum, long want) {
    String minus = "0-" + (-want) / 1000 + "*1000-" + (-want) % 1000;
    String plain = want / 1000 + "*1000+" + want % 1000;
    SundayPit x = Bench.told(P3 + "kind a rest 1 gas 0;row aaa;house h at 0;worth " + sum + ";tilt " + sum + ";may "
        + sum + "=" + (want < 0 ? minus : plain) + ";");
    Bench.due("worth " + sum, x.cell(0, 6), Math.max(0, Math.min(999, want)));
    Bench.due("tilt " + sum, x.house(0, 1), Math.max(0, Math.min(9999, want)));
    Bench.due("may " + sum + "=" + want, x.cell(0, 5), 0);
    Bench.answers(x, "most " + sum, want);
    Bench.answers(x, "least " + sum, want);
  }
}
