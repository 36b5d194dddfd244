import java.nio.charset.StandardCharsets;
import java.util.ArrayDeque;
import java.util.ArrayList;
import java.util.Arrays;
import java.util.HashMap;
import java.util.HashSet;
import java.util.List;
import java.util.Map;
import java.util.Random;
import java.util.Set;
import java.util.TreeSet;
import java.util.function.IntToLongFunction;

/**
 * Random runs of calls (by fixed seeds) on SundayPit and on a model of the document that is written
 * another way: tokens first, faults as exceptions, formulas as functions, all searches by going
 * through everything. Every answer must be the same.
 */
public final class ModelTests {
  static final long NOTHING = -1000000000000000L;

  // ---------------------------------------------------------------- the model

  static final class Fault extends RuntimeException {
    private static final long serialVersionUID = 1L;
    final int sort, place;
    Fault(int sort, int place) { super(null, null, false, false); this.sort = sort; this.place = place; }
  }

  record Token(char sort, int start, String text) { }

  interface Rule { long of(State s, int subject); }

  static final Set<String> OWN = Set.of("pit", "at", "kind", "rest", "gas", "row", "house", "mix", "may", "worth",
      "tilt", "holds", "props", "leans", "depth", "across", "near", "span", "open", "fallen", "whole", "number", "tubs",
      "or", "and", "not", "all", "min", "max");

  static List<Token> tokens(byte[] text) {
    List<Token> all = new ArrayList<>();
    int i = 0;
    boolean longBefore = false;
    while (i < text.length) {
      int c = text[i] & 255;
      if (c == 10 || c == 32) { i++; longBefore = false; continue; }
      int from = i;
      boolean letters = c >= 'a' && c <= 'z', digits = c >= '0' && c <= '9';
      if (letters) { while (i < text.length && text[i] >= 'a' && text[i] <= 'z') i++; }
      else if (digits) { while (i < text.length && text[i] >= '0' && text[i] <= '9') i++; }
      else i++;
      boolean isLong = letters || digits;
      char sort = isLong && longBefore ? '!' : letters ? 'w' : digits ? 'n' : 'm';
      all.add(new Token(sort, from, new String(text, from, i - from, StandardCharsets.ISO_8859_1)));
      longBefore = isLong;
    }
    all.add(new Token('e', text.length, ""));
    return all;
  }

  static final class Told {
    int columns, shaft, statements, holds = 3, props = 5, leans = 10;
    List<String> kinds = new ArrayList<>(), houses = new ArrayList<>(), rows = new ArrayList<>();
    List<Integer> rest = new ArrayList<>(), gas = new ArrayList<>(), at = new ArrayList<>();
    Set<List<Integer>> mixes = new HashSet<>();
    Rule may, worth, tilt;
    int cells() { return columns * rows.size(); }
    int kindAt(int column, int row) {
      if (column < 0 || row < 0 || column >= columns || row >= rows.size()) return -1;
      char c = rows.get(row).charAt(column);
      return c == 'x' ? -1 : c - 'a';
    }
    int kindOf(int cell) { return kindAt(cell % columns, cell / columns); }
  }

  static final class State {
    final Told told;
    int[] cells, store;
    int props, worth, rest;
    State(Told t) { told = t; cells = new int[t.cells()]; store = new int[t.kinds.size()]; props = t.props; }
    State copy() {
      State s = new State(told);
      s.cells = cells.clone(); s.store = store.clone(); s.props = props; s.worth = worth; s.rest = rest;
      return s;
    }
    boolean open(int c) { return cells[c] == 1 || cells[c] == 2; }
    List<Integer> beside(int c) {
      List<Integer> out = new ArrayList<>();
      for (int o = 0; o < cells.length; o++) {
        int dx = Math.abs(o % told.columns - c % told.columns), dy = Math.abs(o / told.columns - c / told.columns);
        if (dx + dy == 1) out.add(o);
      }
      return out;
    }
    int near(int c) { int n = 0; for (int o : beside(c)) if (open(o)) n++; return n; }
    TreeSet<Integer> spanSet(int c) {
      TreeSet<Integer> out = new TreeSet<>();
      out.add(c);
      boolean more = true;
      while (more) {
        more = false;
        for (int o = 0; o < cells.length; o++) {
          if (o / told.columns == c / told.columns && cells[o] == 1 && !out.contains(o)
              && (out.contains(o - 1) || out.contains(o + 1))) { out.add(o); more = true; }
        }
      }
      return out;
    }
    Set<Integer> reached() {
      Set<Integer> out = new HashSet<>();
      if (cells.length == 0 || !open(told.shaft)) return out;
      out.add(told.shaft);
      for (int i = 0; i < cells.length; i++)
        for (int c = 0; c < cells.length; c++)
          if (open(c)) for (int o : beside(c)) if (out.contains(o)) out.add(c);
      return out;
    }
    int why(int c) {
      if (cells[c] != 0) return 1;
      boolean ok = c == told.shaft;
      Set<Integer> r = reached();
      for (int o : beside(c)) ok |= r.contains(o);
      if (!ok) return 2;
      return told.may == null || told.may.of(this, c) != 0 ? 0 : 3;
    }
    int price(int c) {
      int kind = told.kindOf(c);
      if (kind < 0) return 0;
      if (told.worth == null) return told.rest.get(kind);
      return (int) Math.max(0, Math.min(999, told.worth.of(this, c)));
    }
    List<Integer> cuttable() {
      List<Integer> out = new ArrayList<>();
      for (int c = 0; c < cells.length; c++) if (why(c) == 0) out.add(c);
      return out;
    }
    int cut(int c) {
      int p = price(c);
      TreeSet<Integer> span = spanSet(c);
      cells[c] = 1;
      worth += p;
      if (told.kindOf(c) >= 0) store[told.kindOf(c)]++;
      if (span.size() > told.holds) for (int o : span) cells[o] = 3;
      return p;
    }
    int count(int what) { int n = 0; for (int v : cells) if (v == what) n++; return n; }
    long around(int house, boolean fallen) {
      long n = 0;
      for (int c = 0; c < cells.length; c++) {
        int d = c % told.columns - told.at.get(house);
        if (d >= -1 && d <= 1 && (fallen ? cells[c] == 3 : open(c))) n++;
      }
      return n;
    }
    int tilt(int house) {
      long t = told.tilt == null ? around(house, false) + 2 * around(house, true) : told.tilt.of(this, house);
      return (int) Math.max(0, Math.min(9999, t));
    }
  }

  /** Recursive descent over the tokens. */
  static final class Parser {
    final List<Token> all;
    int at = 0, open = 0;
    final Map<String, Rule> facts = new HashMap<>();
    boolean tubs = false;
    Parser(byte[] text) { all = tokens(text); }
    Token now() { return all.get(at); }
    boolean is(String text) { return now().text().equals(text) && now().sort() != '!' && now().sort() != 'e'; }
    Token want(String text) { if (!is(text)) throw new Fault(1, now().start()); return all.get(at++); }
    boolean eat(String text) { if (is(text)) { at++; return true; } return false; }
    int number() {
      Token t = now();
      if (t.sort() != 'n') throw new Fault(1, t.start());
      if (t.text().length() > 4) throw new Fault(1, t.start() + 4);
      at++;
      return Integer.parseInt(t.text());
    }
    int number(int low, int high) {
      int place = now().start(), n = number();
      if (n < low || n > high) throw new Fault(2, place);
      return n;
    }
    String name() {
      Token t = now();
      if (t.sort() != 'w') throw new Fault(1, t.start());
      if (t.text().length() > 6) throw new Fault(1, t.start() + 6);
      if (OWN.contains(t.text())) throw new Fault(1, t.start());
      at++;
      return t.text();
    }
    void deeper(String text) { int place = want(text).start(); if (++open > 6) throw new Fault(4, place); }
    Rule test() {
      Rule left = both();
      while (eat("or")) { Rule a = left, b = both(); left = (s, c) -> a.of(s, c) != 0 || b.of(s, c) != 0 ? 1 : 0; }
      return left;
    }
    Rule both() {
      Rule left = fact();
      while (eat("and")) { Rule a = left, b = fact(); left = (s, c) -> a.of(s, c) != 0 && b.of(s, c) != 0 ? 1 : 0; }
      return left;
    }
    Rule fact() {
      if (is("not")) { deeper("not"); Rule a = fact(); open--; return (s, c) -> a.of(s, c) == 0 ? 1 : 0; }
      if (is("[")) { deeper("["); Rule a = test(); want("]"); open--; return a; }
      if (eat("all")) return (s, c) -> 1;
      Rule a = sum();
      if (eat("<")) { Rule b = sum(); return (s, c) -> a.of(s, c) < b.of(s, c) ? 1 : 0; }
      if (eat(">")) { Rule b = sum(); return (s, c) -> a.of(s, c) > b.of(s, c) ? 1 : 0; }
      want("=");
      Rule b = sum();
      return (s, c) -> a.of(s, c) == b.of(s, c) ? 1 : 0;
    }
    static long bound(long v) { return v > 1000000 ? 1000000 : v < -1000000 ? -1000000 : v; }
    Rule sum() {
      Rule left = product();
      while (is("+") || is("-")) {
        boolean plus = all.get(at++).text().equals("+");
        Rule a = left, b = product();
        left = plus ? (s, c) -> bound(a.of(s, c) + b.of(s, c)) : (s, c) -> bound(a.of(s, c) - b.of(s, c));
      }
      return left;
    }
    static long over(long a, long b) {
      if (b == 0) return 0;
      long q = (long) Math.floor((double) a / (double) b);
      return q;
    }
    Rule product() {
      Rule left = part();
      while (is("*") || is("/")) {
        boolean times = all.get(at++).text().equals("*");
        Rule a = left, b = part();
        left = times ? (s, c) -> bound(a.of(s, c) * b.of(s, c)) : (s, c) -> over(a.of(s, c), b.of(s, c));
      }
      return left;
    }
    Rule part() {
      if (now().sort() == 'n') { int n = number(); return (s, c) -> n; }
      if (is("(")) { deeper("("); Rule a = sum(); want(")"); open--; return a; }
      for (boolean least : new boolean[] {true, false}) {
        if (eat(least ? "min" : "max")) {
          deeper("(");
          Rule a = sum();
          want(",");
          Rule b = sum();
          want(")");
          open--;
          return least ? (s, c) -> Math.min(a.of(s, c), b.of(s, c)) : (s, c) -> Math.max(a.of(s, c), b.of(s, c));
        }
      }
      if (tubs && is("tubs")) {
        deeper("tubs");
        Rule a = part();
        open--;
        return (s, c) -> { long k = a.of(s, c); return k >= 0 && k < s.store.length ? s.store[(int) k] : 0; };
      }
      if (now().sort() == 'w' && facts.containsKey(now().text())) return facts.get(all.get(at++).text());
      throw new Fault(1, now().start());
    }
    void cellFacts() {
      facts.clear();
      facts.put("depth", (s, c) -> c / s.told.columns);
      facts.put("across", (s, c) -> c % s.told.columns);
      facts.put("rest", (s, c) -> s.told.kindOf(c) < 0 ? 0 : s.told.rest.get(s.told.kindOf(c)));
      facts.put("gas", (s, c) -> s.told.kindOf(c) < 0 ? 0 : s.told.gas.get(s.told.kindOf(c)));
      facts.put("near", (s, c) -> s.near(c));
      facts.put("span", (s, c) -> s.spanSet(c).size());
    }
    void houseFacts() {
      facts.clear();
      facts.put("open", (s, h) -> s.around(h, false));
      facts.put("fallen", (s, h) -> s.around(h, true));
      facts.put("across", (s, h) -> s.told.at.get(h));
    }
    void askFacts() {
      cellFacts();
      tubs = true;
      facts.put("number", (s, c) -> c);
      facts.put("whole", (s, c) -> s.cells[c] == 0 ? 1 : 0);
      facts.put("open", (s, c) -> s.open(c) ? 1 : 0);
      facts.put("fallen", (s, c) -> s.cells[c] == 3 ? 1 : 0);
    }
    Told pit() {
      Told t = new Told();
      if (now().sort() == 'e') throw new Fault(1, now().start());
      while (now().sort() != 'e') {
        if (t.statements == 60) throw new Fault(5, now().start());
        statement(t);
        want(";");
        t.statements++;
      }
      return t;
    }
    void statement(Told t) {
      int place = now().start();
      String word = now().sort() == 'w' ? now().text() : "";
      if (t.statements == 0) {
        want("pit");
        t.columns = number(3, 8);
        want("at");
        t.shaft = number(0, t.columns - 1);
        return;
      }
      boolean many = switch (word) {
        case "kind" -> t.kinds.size() == 5 || !t.rows.isEmpty();
        case "row" -> t.rows.size() == 6;
        case "house" -> t.houses.size() == 6;
        case "mix" -> t.mixes.size() == 10;
        case "may" -> t.may != null;
        case "worth" -> t.worth != null;
        case "tilt" -> t.tilt != null;
        case "holds", "props", "leans" -> false;
        default -> throw new Fault(1, place);
      };
      if (many) throw new Fault(5, place);
      at++;
      switch (word) {
        case "kind" -> {
          String n = newName(t);
          want("rest");
          int r = number(1, 99);
          want("gas");
          int g = number(0, 99);
          t.kinds.add(n); t.rest.add(r); t.gas.add(g);
        }
        case "row" -> {
          Token c = now();
          String good = "abcde".substring(0, t.kinds.size()) + "x";
          boolean ok = c.sort() == 'w' && c.text().length() == t.columns;
          for (char l : c.text().toCharArray()) ok &= good.indexOf(l) >= 0;
          if (!ok) throw new Fault(1, c.start());
          at++;
          t.rows.add(c.text());
        }
        case "house" -> {
          String n = newName(t);
          want("at");
          int c = number(0, t.columns - 1);
          t.houses.add(n); t.at.add(c);
        }
        case "mix" -> {
          int a = oldKind(t), second = now().start(), b = oldKind(t);
          if (a == b || !t.mixes.add(List.of(Math.min(a, b), Math.max(a, b)))) throw new Fault(3, second);
        }
        case "may" -> { cellFacts(); t.may = test(); }
        case "worth" -> { cellFacts(); t.worth = sum(); }
        case "tilt" -> { houseFacts(); t.tilt = sum(); }
        case "holds" -> t.holds = number(1, 8);
        case "props" -> t.props = number(0, 20);
        default -> t.leans = number(0, 999);
      }
    }
    String newName(Told t) {
      int place = now().start();
      String n = name();
      if (t.kinds.contains(n) || t.houses.contains(n)) throw new Fault(3, place);
      return n;
    }
    int oldKind(Told t) {
      int place = now().start();
      int k = t.kinds.indexOf(name());
      if (k < 0) throw new Fault(3, place);
      return k;
    }
  }

  static final class Model {
    byte[] tape = new byte[0], picture = new byte[0];
    Told told = new Told();
    State now = new State(told);
    boolean isTold = false;
    int faultSort = 0, faultPlace = -1;
    int[] refused = new int[6], verdict = null;
    long x = 1;
    ArrayDeque<State> past = new ArrayDeque<>();
    List<int[]> bores = new ArrayList<>();

    int no(int what) { refused[what]++; return -1; }
    byte[] take() { byte[] t = tape; tape = new byte[0]; return t; }

    int feed(int... words) {
      if (tape.length + 20 > 1600) return no(0);
      byte[] t = Arrays.copyOf(tape, tape.length + 20);
      for (int i = 0; i < 20; i++) t[tape.length + i] = (byte) (words[i / 4] >> (24 - 8 * (i % 4)));
      tape = t;
      return tape.length;
    }
    boolean end(int n) {
      if (n < 0 || n > tape.length) { no(0); return false; }
      tape = Arrays.copyOf(tape, n);
      return true;
    }
    int pit() {
      byte[] text = take();
      faultSort = 0;
      faultPlace = -1;
      try {
        told = new Parser(text).pit();
      } catch (Fault f) {
        faultSort = f.sort;
        faultPlace = f.place;
        return no(1);
      }
      now = new State(told);
      isTold = true;
      past.clear();
      bores.clear();
      verdict = null;
      return told.statements;
    }
    int fault(int what) { return what == 0 ? faultSort : what == 1 ? faultPlace : -1; }
    int has(int what) {
      return switch (what) {
        case 0 -> told.columns;
        case 1 -> told.rows.size();
        case 2 -> told.kinds.size();
        case 3 -> told.houses.size();
        case 4 -> told.mixes.size();
        case 5 -> told.holds;
        case 6 -> now.props;
        case 7 -> Arrays.stream(now.store).sum();
        case 8 -> now.worth;
        case 9 -> now.rest;
        case 10 -> now.count(1) + now.count(2);
        case 11 -> now.count(3);
        case 12 -> now.cuttable().size();
        case 13 -> past.size();
        default -> -1;
      };
    }
    int letter(int kind, int which, int k) {
      List<String> names = kind == 0 ? told.kinds : kind == 1 ? told.houses : List.of();
      if (which < 0 || which >= names.size() || k < 0 || k > 5) return -1;
      return k < names.get(which).length() ? names.get(which).charAt(k) - 'a' + 1 : 0;
    }
    int kind(int kind, int what) {
      if (kind < 0 || kind >= told.kinds.size()) return -1;
      int all = 0, whole = 0, bits = 0;
      for (int c = 0; c < told.cells(); c++) if (told.kindOf(c) == kind) { all++; if (now.cells[c] == 0) whole++; }
      for (int o = 0; o < told.kinds.size(); o++)
        if (told.mixes.contains(List.of(Math.min(o, kind), Math.max(o, kind)))) bits += 1 << o;
      int[] answers = {told.rest.get(kind), told.gas.get(kind), now.store[kind], bits, all, whole};
      return what < 0 || what > 5 ? -1 : answers[what];
    }
    int cell(int c, int what) {
      if (c < 0 || c >= told.cells()) return -1;
      return switch (what) {
        case 0 -> told.kindOf(c);
        case 1 -> now.cells[c];
        case 2 -> now.near(c);
        case 3 -> now.spanSet(c).size();
        case 4 -> now.reached().contains(c) ? 1 : 0;
        case 5 -> now.why(c);
        case 6 -> now.price(c);
        default -> -1;
      };
    }
    int house(int h, int what) {
      if (h < 0 || h >= told.houses.size()) return -1;
      return switch (what) {
        case 0 -> told.at.get(h);
        case 1 -> now.tilt(h);
        case 2 -> now.tilt(h) > told.leans ? 1 : 0;
        default -> -1;
      };
    }
    int judge() {
      byte[] order = take();
      if (order.length > 48) return no(1);
      for (byte b : order) if ((b & 255) >= told.cells()) return no(1);
      State s = now.copy();
      int[] v = new int[3];
      int n = 0;
      for (byte b : order) {
        v[0] = s.why(b);
        if (v[0] != 0) break;
        v[1] += s.cut(b);
        n++;
      }
      v[2] = s.count(3) - now.count(3);
      verdict = v;
      return n;
    }
    int judged(int what) { return verdict == null || what < 0 || what > 2 ? -1 : verdict[what]; }

    void paths(State s, List<Integer> path, int worth, int n, List<Object[]> out) {
      out.add(new Object[] {List.copyOf(path), worth});
      if (path.size() == n) return;
      for (int c : s.cuttable()) {
        if (s.spanSet(c).size() > told.holds) continue;
        State t = s.copy();
        int p = t.cut(c);
        path.add(c);
        paths(t, path, worth + p, n, out);
        path.remove(path.size() - 1);
      }
    }
    static int byNumbers(List<?> a, List<?> b) {
      for (int i = 0; i < Math.min(a.size(), b.size()); i++) {
        int d = Integer.compare((Integer) a.get(i), (Integer) b.get(i));
        if (d != 0) return d;
      }
      return Integer.compare(a.size(), b.size());
    }
    int best(int n, int k) {
      if (n < 1 || n > 3) return -1;
      List<Object[]> all = new ArrayList<>();
      paths(now, new ArrayList<>(), 0, n, all);
      Object[] top = all.get(0);
      for (Object[] o : all) {
        List<?> p = (List<?>) o[0], q = (List<?>) top[0];
        int d = Integer.compare(p.size(), q.size());
        if (d == 0) d = Integer.compare((Integer) o[1], (Integer) top[1]);
        if (d == 0) d = -byNumbers(p, q);
        if (d > 0) top = o;
      }
      List<?> p = (List<?>) top[0];
      if (p.isEmpty()) return -1;
      if (k == -1) return (Integer) top[1];
      if (k == 20) return p.size();
      return k >= 0 && k < p.size() ? (Integer) p.get(k) : -1;
    }
    /** Worth for the first rival ahead, cells behind it. */
    List<Integer> play(State s, int turn, int n) {
      if (turn == n) return new ArrayList<>(List.of(0));
      List<Integer> top = null;
      for (int c : s.cuttable()) {
        State t = s.copy();
        int p = t.cut(c);
        List<Integer> line = play(t, turn + 1, n);
        line.set(0, line.get(0) + (turn % 2 == 0 ? p : -p));
        line.add(1, c);
        if (top == null || (turn % 2 == 0 ? line.get(0) > top.get(0) : line.get(0) < top.get(0))) top = line;
      }
      return top == null ? new ArrayList<>(List.of(0)) : top;
    }
    long rivals(int n, int k) {
      if (n < 0 || n > 3 || k < -1 || k >= n) return NOTHING;
      List<Integer> line = play(now, 0, n);
      if (k == -1) return line.get(0);
      return k + 1 < line.size() ? line.get(k + 1) : 100;
    }
    int stores(int k) {
      int kinds = told.kinds.size();
      if (k < -1 || k >= kinds) return -1;
      if (kinds == 0) return 0;
      int[] top = null;
      int few = 99;
      for (int code = 0; code < Math.pow(kinds, kinds); code++) {
        int[] a = new int[kinds];
        int rest = code;
        for (int i = kinds - 1; i >= 0; i--) { a[i] = rest % kinds; rest /= kinds; }
        boolean ok = true;
        int used = 0;
        for (int i = 0; i < kinds; i++) { ok &= a[i] <= used; used = Math.max(used, a[i] + 1); }
        for (List<Integer> m : told.mixes) ok &= a[m.get(0)] != a[m.get(1)];
        if (ok && used < few) { few = used; top = a; }
      }
      return k == -1 ? few : top[k];
    }
    void act() { past.addLast(now.copy()); if (past.size() > 20) past.removeFirst(); }
    int cut(int c) {
      if (c < 0 || c >= told.cells() || now.why(c) != 0) return no(2);
      act();
      return now.cut(c);
    }
    boolean prop(int c) {
      if (c < 0 || c >= told.cells() || now.cells[c] != 1 || now.props == 0) { no(2); return false; }
      act();
      now.cells[c] = 2;
      now.props--;
      return true;
    }
    boolean burn(int k) {
      if (k < 0 || k >= told.kinds.size() || now.store[k] == 0) { no(2); return false; }
      act();
      now.store[k]--;
      now.rest += told.rest.get(k);
      return true;
    }
    int draw(int m) { x = (1103515245L * x + 12345) % (1L << 31); return (int) (x / 64 % m); }
    int days(int n) {
      if (!isTold || n < 1 || n > 30) return no(3);
      act();
      int blasts = 0;
      for (int i = 0; i < n; i++) {
        List<Integer> can = now.cuttable();
        if (can.isEmpty()) continue;
        int c = can.get(draw(can.size())), p = now.cut(c), k = told.kindOf(c);
        if (draw(100) < (k < 0 ? 0 : told.gas.get(k))) {
          blasts++;
          now.cells[c] = 3;
          for (int o : now.beside(c)) if (now.open(o)) now.cells[o] = 3;
          now.store[k]--;
          now.worth -= p;
        }
      }
      return blasts;
    }
    boolean undo() {
      if (past.isEmpty()) { no(4); return false; }
      now = past.removeLast();
      return true;
    }
    boolean seed(int s) { if (s < 0) { no(5); return false; } x = s; return true; }
    int bores() {
      byte[] t = take();
      if (t.length == 0 || t.length > 60 || t.length % 3 != 0) return no(1);
      List<int[]> rows = new ArrayList<>();
      for (int i = 0; i < t.length; i += 3) {
        int[] r = {t[i] & 255, t[i + 1] & 255, t[i + 2] & 255};
        if (r[0] >= told.columns || r[1] >= told.rows.size() || r[2] > told.kinds.size()) return no(1);
        rows.add(r);
      }
      bores = rows;
      return rows.size();
    }
    List<int[]> shifts() {
      List<int[]> out = new ArrayList<>();
      for (int dy = -1; dy <= 1; dy++)
        for (int dx = -2; dx <= 2; dx++) {
          boolean ok = true;
          for (int[] r : bores) ok &= told.kindAt(r[0] - dx, r[1] - dy) + 1 == r[2];
          if (ok) out.add(new int[] {dx, dy});
        }
      return out;
    }
    int fits(int what) {
      List<int[]> all = shifts();
      int bits = 0;
      for (int[] s : all) bits += 1 << (5 * (s[1] + 1) + s[0] + 2);
      return switch (what) {
        case 0 -> all.size();
        case 1 -> bits;
        case 2 -> all.isEmpty() ? -1 : 5 * (all.get(0)[1] + 1) + all.get(0)[0] + 2;
        default -> -1;
      };
    }
    int next(int what) {
      List<int[]> all = shifts();
      int cell = -1, few = 99;
      for (int c = 0; c < told.cells() && !all.isEmpty(); c++) {
        Map<Integer, Integer> by = new HashMap<>();
        for (int[] s : all) by.merge(told.kindAt(c % told.columns - s[0], c / told.columns - s[1]), 1, Integer::sum);
        int most = by.values().stream().max(Integer::compare).get();
        if (most < few) { few = most; cell = c; }
      }
      return cell == -1 ? -1 : what == 0 ? cell : what == 1 ? few : -1;
    }
    int theft(int n, int what) {
      int kinds = told.kinds.size();
      if (n < 0 || what != 0 && (what < 10 || what >= 10 + kinds)) return -1;
      int[] t = new int[kinds];
      int count = 0, fewest = 999;
      while (true) {
        int sum = 0;
        for (int k = 0; k < kinds; k++) sum += t[k] * told.rest.get(k);
        if (sum == n) { count++; if (what >= 10) fewest = Math.min(fewest, t[what - 10]); }
        int k = 0;
        while (k < kinds && t[k] == now.store[k]) t[k++] = 0;
        if (k == kinds) break;
        t[k]++;
      }
      return what == 0 ? count : count == 0 ? -1 : fewest;
    }
    long ask() {
      byte[] text = take();
      if (!isTold) return NOTHING;
      faultSort = 0;
      faultPlace = -1;
      String head;
      Rule rule;
      try {
        Parser p = new Parser(text);
        p.askFacts();
        Token t = p.now();
        head = t.text();
        if (t.sort() != 'w' || !List.of("first", "last", "often", "total", "most", "least").contains(head))
          throw new Fault(1, t.start());
        p.at++;
        rule = List.of("first", "last", "often").contains(head) ? p.test() : p.sum();
        if (p.now().sort() != 'e') throw new Fault(1, p.now().start());
      } catch (Fault f) {
        faultSort = f.sort;
        faultPlace = f.place;
        return NOTHING;
      }
      IntToLongFunction of = c -> rule.of(now, c);
      long[] v = new long[told.cells()];
      for (int c = 0; c < v.length; c++) v[c] = of.applyAsLong(c);
      long first = -1, last = -1;
      for (int c = v.length - 1; c >= 0; c--) if (v[c] != 0) first = c;
      for (int c = 0; c < v.length; c++) if (v[c] != 0) last = c;
      return switch (head) {
        case "first" -> first;
        case "last" -> last;
        case "often", "total" -> Arrays.stream(v).sum();
        case "most" -> Arrays.stream(v).max().orElse(0);
        default -> Arrays.stream(v).min().orElse(0);
      };
    }
    static int guard(byte[] b, int n) { int c = 223; for (int i = 0; i < n; i++) c = (3 * c + (b[i] & 255)) % 251; return c; }
    int image() {
      int kinds = told.kinds.size();
      byte[] b = new byte[8 + kinds + told.cells()];
      b[0] = (byte) now.props;
      for (int i = 0; i < 3; i++) { b[1 + i] = (byte) (now.worth >> (16 - 8 * i)); b[4 + i] = (byte) (now.rest >> (16 - 8 * i)); }
      for (int k = 0; k < kinds; k++) b[7 + k] = (byte) now.store[k];
      for (int c = 0; c < told.cells(); c++) b[7 + kinds + c] = (byte) now.cells[c];
      b[b.length - 1] = (byte) guard(b, b.length - 1);
      picture = b;
      return b.length;
    }
    int octet(int k) { return k < 0 || k >= picture.length ? -1 : picture[k] & 255; }
    boolean on() {
      byte[] b = take();
      int kinds = told.kinds.size(), n = 8 + kinds + told.cells();
      boolean ok = isTold && b.length == n && (b[n - 1] & 255) == guard(b, n - 1) && (b[0] & 255) <= told.props;
      if (ok) {
        State s = new State(told);
        s.props = b[0];
        s.worth = (b[1] & 255) * 65536 + (b[2] & 255) * 256 + (b[3] & 255);
        s.rest = (b[4] & 255) * 65536 + (b[5] & 255) * 256 + (b[6] & 255);
        ok = s.worth <= 999999 && s.rest <= 999999;
        for (int k = 0; k < kinds; k++) { s.store[k] = b[7 + k] & 255; ok &= s.store[k] <= 20; }
        for (int c = 0; c < told.cells(); c++) { s.cells[c] = b[7 + kinds + c] & 255; ok &= s.cells[c] <= 3; }
        if (ok) { now = s; past.clear(); }
      }
      if (!ok) no(5);
      return ok;
    }
    int status(int what) { return what < 0 || what > 5 ? -1 : refused[what]; }
  }

  // ---------------------------------------------------------------- texts by chance

  static final class Writer {
    final Random r;
    Writer(Random r) { this.r = r; }
    int upTo(int n) { return r.nextInt(n); }
    String pick(String... s) { return s[upTo(s.length)]; }
    String number() { return "" + (upTo(4) == 0 ? upTo(10000) : upTo(12)); }
    String part(int depth, String... facts) {
      int k = upTo(depth <= 0 ? 6 : 12);
      if (k < 2) return number();
      if (k < 8) return pick(facts);
      if (k < 10) return "(" + sum(depth - 1, facts) + ")";
      if (k == 10) return pick("min", "max") + "(" + sum(depth - 1, facts) + "," + sum(depth - 1, facts) + ")";
      return Arrays.asList(facts).contains("number") ? "tubs " + part(depth - 1, facts) : number();
    }
    String sum(int depth, String... facts) {
      StringBuilder b = new StringBuilder(part(depth, facts));
      for (int i = upTo(3); i > 0; i--) b.append(pick("+", "-", "*", "/", "*")).append(part(depth, facts));
      return b.toString();
    }
    String fact(int depth, String... facts) {
      int k = upTo(depth <= 0 ? 5 : 9);
      if (k == 0) return "all";
      if (k < 6) return sum(depth - 1, facts) + pick("<", ">", "=") + sum(depth - 1, facts);
      if (k == 6) return "not " + fact(depth - 1, facts);
      return "[" + test(depth - 1, facts) + "]";
    }
    String test(int depth, String... facts) {
      StringBuilder b = new StringBuilder(fact(depth, facts));
      for (int i = upTo(3); i > 0; i--) b.append(pick(" or ", " and ")).append(fact(depth, facts));
      return b.toString();
    }
    static final String[] CELL = {"depth", "across", "rest", "gas", "near", "span"};
    static final String[] HOUSE = {"open", "fallen", "across"};
    static final String[] ASK = {"number", "depth", "across", "rest", "gas", "near", "span", "whole", "open", "fallen"};

    String name() { return pick("soft", "thick", "a", "x", "zz", "abcdef", "first", "inn", "spa", "h", "q", "dull", "b", "most"); }
    String question() {
      int depth = upTo(8) == 0 ? 8 : 2;
      return upTo(2) == 0 ? pick("first ", "last ", "often ") + test(depth, ASK) : pick("total ", "most ", "least ") + sum(depth, ASK);
    }
    String pit() {
      int columns = 3 + upTo(upTo(3) == 0 ? 6 : 3), kinds = upTo(6), rows = upTo(10) == 0 ? 0 : 1 + upTo(upTo(3) == 0 ? 6 : 3);
      StringBuilder b = new StringBuilder("pit " + columns + " at " + upTo(columns) + ";");
      List<String> names = new ArrayList<>();
      for (int k = 0; k < kinds; k++) {
        String n = name();
        if (names.contains(n) && upTo(10) > 0) { k--; continue; }
        names.add(n);
        b.append("kind " + n + " rest " + (1 + upTo(upTo(3) == 0 ? 99 : 5)) + " gas " + upTo(100) + ";");
      }
      List<String> more = new ArrayList<>();
      for (int i = 0; i < rows; i++) {
        StringBuilder row = new StringBuilder();
        for (int c = 0; c < columns; c++) row.append(upTo(4) == 0 || kinds == 0 ? 'x' : (char) ('a' + upTo(kinds)));
        more.add("row " + row + ";");
      }
      for (int i = upTo(4); i > 0; i--) more.add("house " + name() + " at " + upTo(columns) + ";");
      if (kinds > 1) for (int i = upTo(4); i > 0; i--) more.add("mix " + names.get(upTo(kinds)) + " " + names.get(upTo(kinds)) + ";");
      if (upTo(2) == 0) more.add("holds " + (1 + upTo(upTo(2) == 0 ? 8 : 3)) + ";");
      if (upTo(3) == 0) more.add("props " + upTo(21) + ";");
      if (upTo(3) == 0) more.add("leans " + upTo(10) + ";");
      int depth = upTo(8) == 0 ? 8 : 2;
      if (upTo(3) == 0) more.add("may " + (upTo(2) == 0 ? "rest<60 and near<4 or " : "") + test(depth, CELL) + ";");
      if (upTo(2) == 0) more.add("worth " + sum(depth, CELL) + ";");
      if (upTo(2) == 0) more.add("tilt " + sum(depth, HOUSE) + ";");
      if (upTo(12) == 0) for (int i = 0; i < 60; i++) more.add("leans 7;");
      if (upTo(12) == 0 && !more.isEmpty()) for (int i = 0; i < 6; i++) more.add(more.get(upTo(more.size())));
      if (upTo(2) == 0) java.util.Collections.shuffle(more, r);
      for (String s : more) b.append(s);
      return b.toString();
    }
    /** A text with blanks put in, and now and then with a fault. */
    byte[] bytes(String text, boolean spoil) {
      StringBuilder b = new StringBuilder();
      boolean airy = upTo(4) == 0;
      for (char c : text.toCharArray()) {
        if (airy && ";()[]<>=+-*/, ".indexOf(c) >= 0 && upTo(3) == 0) b.append(pick(" ", "\n", "  ")).append(c).append(pick(" ", "\n"));
        else b.append(c);
      }
      if (spoil) for (int i = 1 + upTo(2); i > 0; i--) spoil(b);
      if (b.length() > 1600) b.setLength(1600);
      return b.toString().getBytes(StandardCharsets.ISO_8859_1);
    }
    void spoil(StringBuilder b) {
      int at = upTo(b.length() + 1);
      switch (upTo(6)) {
        case 0 -> b.setLength(at);
        case 1 -> b.insert(at, (char) upTo(256));
        case 2 -> b.insert(at, pick(";", " ", "(", "[", "not ", "1", "9", "a", "x", "min(", "tubs ", "kind ", "row ", "\n", "7777", "abcdef"));
        case 3 -> { if (at < b.length()) b.deleteCharAt(at); }
        case 4 -> { if (at < b.length()) b.setCharAt(at, pick("0", "3", "a", "z", ";", " ", "]", ")", ",", "=").charAt(0)); }
        default -> { int to = Math.min(b.length(), at + upTo(12)); b.delete(at, to); }
      }
    }
  }

  // ---------------------------------------------------------------- runs

  static int wrong = 0;
  static long calls = 0;

  static final class Run {
    final long seed;
    final Random r;
    final Writer w;
    final SundayPit x = new SundayPit();
    final Model m = new Model();
    final StringBuilder log = new StringBuilder();
    int used = 0;
    boolean failed = false;
    Run(long seed) { this.seed = seed; r = new Random(seed); w = new Writer(r); }

    long same(String call, long got, long want) {
      used++;
      calls++;
      if (got != want && !failed) {
        failed = true;
        wrong++;
        System.out.println("run " + seed + ": " + call + " answered " + got + ", the model " + want + log);
      }
      return want;
    }
    void put(byte[] text) {
      for (int i = 0; i < text.length; i += 20) {
        int[] v = new int[5];
        for (int k = 0; k < 20; k++) v[k / 4] = v[k / 4] << 8 | (i + k < text.length ? text[i + k] & 255 : 32);
        same("feed", x.feed(v[0], v[1], v[2], v[3], v[4]), m.feed(v));
      }
      same("end", x.end(text.length) ? 1 : 0, m.end(text.length) ? 1 : 0);
    }
    void note(String what) { log.append("\n  ").append(what.replace("\n", "\\n")); }
    int cell() { int n = m.told.cells(); return r.nextInt(8) == 0 || n == 0 ? r.nextInt(60) - 5 : r.nextInt(n); }
    int cuttable() { List<Integer> c = m.now.cuttable(); return c.isEmpty() || r.nextInt(6) == 0 ? cell() : c.get(r.nextInt(c.size())); }
    int odd(int low, int high) { return r.nextInt(12) == 0 ? r.nextInt() : low + r.nextInt(high - low + 1); }

    void pit() {
      String text = w.pit();
      byte[] b = w.bytes(text, r.nextInt(3) == 0);
      if ((b.length + 19) / 20 + 4 > 512 - used) return;
      note("pit " + new String(b, StandardCharsets.ISO_8859_1));
      put(b);
      same("pit", x.pit(), m.pit());
      fault();
    }
    void fault() { for (int i = 0; i < 2; i++) same("fault(" + i + ")", x.fault(i), m.fault(i)); }
    void ask() {
      byte[] b = w.bytes(w.question(), r.nextInt(3) == 0);
      note("ask " + new String(b, StandardCharsets.ISO_8859_1));
      put(b);
      same("ask", x.ask(), m.ask());
      fault();
    }
    void act() {
      switch (r.nextInt(9)) {
        case 0, 1, 2, 3 -> { int c = cuttable(); note("cut " + c); same("cut", x.cut(c), m.cut(c)); }
        case 4 -> { int c = cell(); note("prop " + c); same("prop", x.prop(c) ? 1 : 0, m.prop(c) ? 1 : 0); }
        case 5 -> { int k = odd(-1, 5); note("burn " + k); same("burn", x.burn(k) ? 1 : 0, m.burn(k) ? 1 : 0); }
        case 6 -> { int n = odd(0, r.nextInt(4) == 0 ? 31 : 4); note("days " + n); same("days", x.days(n), m.days(n)); }
        case 7 -> { note("undo"); same("undo", x.undo() ? 1 : 0, m.undo() ? 1 : 0); }
        default -> { int s = odd(-1, 99); note("seed " + s); same("seed", x.seed(s) ? 1 : 0, m.seed(s) ? 1 : 0); }
      }
    }
    void bytesCall() {
      switch (r.nextInt(3)) {
        case 0 -> {
          State s = m.now.copy();
          int n = r.nextInt(r.nextInt(9) == 0 ? 52 : 8);
          byte[] b = new byte[n];
          for (int i = 0; i < n; i++) {
            List<Integer> c = s.cuttable();
            b[i] = (byte) (c.isEmpty() || r.nextInt(9) == 0 ? cell() : c.get(r.nextInt(c.size())));
            if (b[i] >= 0 && b[i] < m.told.cells() && s.why(b[i]) == 0) s.cut(b[i]);
          }
          note("judge " + Arrays.toString(b));
          put(b);
          same("judge", x.judge(), m.judge());
          for (int i = -1; i < 4; i++) same("judged", x.judged(i), m.judged(i));
        }
        case 1 -> {
          int n = r.nextInt(r.nextInt(9) == 0 ? 23 : 4), dx = r.nextInt(5) - 2, dy = r.nextInt(3) - 1;
          byte[] b = new byte[3 * n + (r.nextInt(12) == 0 ? 1 : 0)];
          for (int i = 0; i < n; i++) {
            int c = r.nextInt(m.told.columns + (r.nextInt(12) == 0 ? 1 : 0) + (m.told.columns == 0 ? 1 : 0));
            int row = r.nextInt(Math.max(1, m.told.rows.size()));
            b[3 * i] = (byte) c;
            b[3 * i + 1] = (byte) row;
            b[3 * i + 2] = (byte) (r.nextInt(9) == 0 ? r.nextInt(7) : m.told.kindAt(c - dx, row - dy) + 1);
          }
          note("bores " + Arrays.toString(b));
          put(b);
          same("bores", x.bores(), m.bores());
          fits();
        }
        default -> {
          m.image();
          byte[] b = m.picture.clone();
          int n = b.length, kinds = m.told.kinds.size();
          if (r.nextInt(3) == 0) for (int c = 0; c < m.told.cells(); c++) b[7 + kinds + c] = (byte) r.nextInt(4);
          if (r.nextInt(3) == 0) for (int k = 0; k < kinds; k++) b[7 + k] = (byte) r.nextInt(r.nextInt(9) == 0 ? 22 : 6);
          if (r.nextInt(3) == 0) b[0] = (byte) r.nextInt(m.told.props + (r.nextInt(4) == 0 ? 2 : 1));
          if (r.nextInt(4) == 0) for (int i = 0; i < 2; i++) { b[1 + 3 * i] = 15; b[2 + 3 * i] = 66; b[3 + 3 * i] = (byte) (62 + r.nextInt(2 + (r.nextInt(3) == 0 ? 1 : 0))); }
          if (r.nextInt(9) == 0) b[r.nextInt(n)] = (byte) r.nextInt(256);
          if (r.nextInt(9) == 0) b = Arrays.copyOf(b, n + r.nextInt(3) - 1);
          if (r.nextInt(9) > 0) b[b.length - 1] = (byte) Model.guard(b, b.length - 1);
          note("on " + Arrays.toString(b));
          put(b);
          same("on", x.on() ? 1 : 0, m.on() ? 1 : 0);
          same("image", x.image(), m.image());
          for (int i = -1; i <= m.picture.length; i++) same("octet(" + i + ")", x.octet(i), m.octet(i));
        }
      }
    }
    void fits() {
      for (int i = -1; i < 4; i++) same("fits(" + i + ")", x.fits(i), m.fits(i));
      for (int i = -1; i < 3; i++) same("next(" + i + ")", x.next(i), m.next(i));
    }
    void look() {
      switch (r.nextInt(8)) {
        case 0 -> { for (int i = -1; i < 15; i++) same("has(" + i + ")", x.has(i), m.has(i)); }
        case 1 -> { int c = cell(); for (int i = -1; i < 8; i++) same("cell(" + c + "," + i + ")", x.cell(c, i), m.cell(c, i)); }
        case 2 -> { int k = odd(-1, 5); for (int i = -1; i < 7; i++) same("kind(" + k + "," + i + ")", x.kind(k, i), m.kind(k, i)); }
        case 3 -> { int h = odd(-1, 4); for (int i = -1; i < 4; i++) same("house(" + h + "," + i + ")", x.house(h, i), m.house(h, i)); }
        case 4 -> { int a = r.nextInt(3), b = odd(-1, 4); for (int i = -1; i < 7; i++) same("letter", x.letter(a, b, i), m.letter(a, b, i)); }
        case 5 -> { for (int i = -2; i < 6; i++) same("stores(" + i + ")", x.stores(i), m.stores(i)); }
        case 6 -> {
          int all = 0;
          for (int k = 0; k < m.now.store.length; k++) all += m.now.store[k] * m.told.rest.get(k);
          int n = odd(-1, Math.max(3, all + 1));
          for (int i = -1; i < 16; i += i == 0 ? 9 : 1) same("theft(" + n + "," + i + ")", x.theft(n, i), m.theft(n, i));
        }
        default -> { for (int i = -1; i < 7; i++) same("status(" + i + ")", x.status(i), m.status(i)); }
      }
    }
    void search() {
      int n = odd(0, 4), k = odd(-2, 4);
      if (r.nextInt(4) == 0) k = 20;
      if (n == 3 && m.told.cells() > 24) n = 2;
      same("best(" + n + "," + k + ")", x.best(n, k), m.best(n, k));
      same("rivals(" + n + "," + k + ")", x.rivals(n, k), m.rivals(n, k));
    }
    void go() {
      if (r.nextInt(10) > 0) pit();
      while (used < 400) {
        int k = r.nextInt(40);
        if (k == 0) pit();
        else if (k < 4) ask();
        else if (k < 24) act();
        else if (k < 28) bytesCall();
        else if (k < 36) look();
        else search();
      }
    }
  }

  public static void main(String[] args) {
    int runs = args.length > 0 ? Integer.parseInt(args[0]) : 600;
    for (long seed = 1; seed <= runs && wrong < 5; seed++) new Run(seed).go();
    System.out.println(wrong == 0 ? calls + " calls answered as the model does" : wrong + " runs differ from the model");
    if (wrong != 0) System.exit(1);
  }
}
