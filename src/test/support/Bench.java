import java.io.IOException;
import java.nio.charset.StandardCharsets;
import java.nio.file.Files;
import java.nio.file.Path;
import java.util.LinkedHashMap;
import java.util.Map;

/**
 * Where the boundary tests stand: each one says which sentence of the document it holds (the quote is
 * looked up in ../shared/DOC.md) and then what is due. In the end each word of a section must have been quoted.
 */
final class Bench {
  static final int NONE = -1;
  static final long NOTHING = -1000000000000000L;
  static final String P3 = "pit 3 at 0;";

  private static final Map<String, String> SECTIONS = new LinkedHashMap<>();
  private static final Map<String, boolean[]> QUOTED = new LinkedHashMap<>();
  private static String where = "";
  private static String sentence = "";
  private static int checksOfSentence = 1;
  private static int sentences = 0;
  private static int checks = 0;
  private static int wrong = 0;

  private Bench() { }

  // ---- the document

  static void open() throws IOException {
    String doc = Files.readString(Path.of("../shared/DOC.md"), StandardCharsets.UTF_8);
    for (String part : doc.split("\n## ")) {
      String head = part.substring(0, part.indexOf('\n')).replaceAll(":.*", "").trim();
      String body = part.substring(part.indexOf('\n')).replaceAll("```(text)?", " ").replaceAll("\\s+", " ");
      SECTIONS.put(head, body);
      QUOTED.put(head, new boolean[body.length()]);
    }
  }

  /** The tests behind this hold that sentence of that section. */
  static void says(String section, String quote) {
    if (checksOfSentence == 0) tell("has no test");
    where = section;
    sentence = quote;
    checksOfSentence = 0;
    sentences++;
    String body = SECTIONS.getOrDefault(section, "");
    boolean[] quoted = QUOTED.getOrDefault(section, new boolean[0]);
    int at = body.indexOf(quote);
    if (at < 0) tell("does not stand in the document");
    for (; at >= 0; at = body.indexOf(quote, at + 1)) for (int i = 0; i < quote.length(); i++) quoted[at + i] = true;
  }

  static void promise(int number, String quote) { says("Promise " + number, quote); }
  static void terms(String quote) { says("Terms", quote); }

  /** What stands there from one place up to another (to the section's end, if that is not there) promises nothing. */
  static void plain(String section, String from, String to) {
    String body = SECTIONS.getOrDefault(section, "");
    int first = body.indexOf(from), last = body.indexOf(to, Math.max(0, first));
    for (int i = Math.max(0, first); i < (last < 0 ? body.length() : last); i++) QUOTED.get(section)[i] = true;
  }

  /** Each word of the section must have been quoted. */
  static void allQuoted(String section) {
    String body = SECTIONS.getOrDefault(section, "");
    if (body.isEmpty()) { wrong++; System.out.println("no section " + section); return; }
    boolean[] quoted = QUOTED.get(section);
    StringBuilder left = new StringBuilder();
    for (int i = 0; i < quoted.length; i++) left.append(quoted[i] ? ' ' : body.charAt(i));
    String words = left.toString().replaceAll("[^A-Za-z0-9]+", " ").replaceAll("\\b[IV]+\\b", "").trim();
    if (!words.isEmpty()) { wrong++; System.out.println(section + ": no test quotes '" + words + "'"); }
  }

  static void close() {
    if (checksOfSentence == 0) tell("has no test");
    System.out.println(wrong == 0 ? sentences + " sentences hold, by " + checks + " answers" : wrong + " answers are not as due");
    if (wrong != 0) System.exit(1);
  }

  private static void tell(String what) {
    wrong++;
    System.out.println(where + ", \"" + sentence + "\": " + what);
  }

  // ---- what is due

  static void due(String what, long got, long want) {
    checks++;
    checksOfSentence++;
    if (got != want) tell(what + " answered " + got + ", due is " + want);
  }
  static void due(String what, boolean got, boolean want) { due(what, got ? 1 : 0, want ? 1 : 0); }
  static void yes(String what, boolean got) { due(what, got, true); }
  static void no(String what, boolean got) { due(what, got, false); }

  // ---- the tape and the calls that take it

  static void put(SundayPit x, byte[] b) {
    x.end(0);
    for (int i = 0; i < b.length; i += 20) {
      int[] v = new int[5];
      for (int k = 0; k < 20; k++) v[k / 4] = v[k / 4] << 8 | (i + k < b.length ? b[i + k] & 255 : 0);
      x.feed(v[0], v[1], v[2], v[3], v[4]);
    }
    x.end(b.length);
  }
  static void put(SundayPit x, String text) { put(x, text.getBytes(StandardCharsets.ISO_8859_1)); }
  static void put(SundayPit x, int... bytes) {
    byte[] b = new byte[bytes.length];
    for (int i = 0; i < b.length; i++) b[i] = (byte) bytes[i];
    put(x, b);
  }
  static int pit(SundayPit x, String text) { put(x, text); return x.pit(); }
  static long ask(SundayPit x, String text) { put(x, text); return x.ask(); }
  static int judge(SundayPit x, int... cells) { put(x, cells); return x.judge(); }
  static int bores(SundayPit x, int... rows) { put(x, rows); return x.bores(); }
  static boolean on(SundayPit x, int... bytes) { put(x, bytes); return x.on(); }

  /** How long the tape is, told by one feed() more, which is taken away again. */
  static int tape(SundayPit x) {
    int length = x.feed(0, 0, 0, 0, 0) - 20;
    x.end(Math.max(0, length));
    return length;
  }

  /** A new object with this pit. */
  static SundayPit told(String text) {
    SundayPit x = new SundayPit();
    if (pit(x, text) == NONE) tell("the pit '" + text + "' has FAULT " + x.fault(0) + " at " + x.fault(1));
    return x;
  }

  static void good(String text, int statements) {
    SundayPit x = new SundayPit();
    due("pit() of '" + text + "'", pit(x, text), statements);
    due("its fault(0), '" + text + "'", x.fault(0), 0);
    due("its fault(1), '" + text + "'", x.fault(1), NONE);
  }

  /** A pit with this FAULT; the sign ^ stands ahead of the byte where it is, and is no part of the text. */
  static void bad(String marked, int sort) {
    SundayPit x = new SundayPit();
    due("pit() of '" + marked + "'", pit(x, marked.replace("^", "")), NONE);
    due("its fault(0), '" + marked + "'", x.fault(0), sort);
    due("its fault(1), '" + marked + "'", x.fault(1), marked.indexOf('^'));
  }

  static void answers(SundayPit x, String question, long want) {
    due("ask() of '" + question + "'", ask(x, question), want);
    due("its fault(0), '" + question + "'", x.fault(0), 0);
  }
  static void badAsk(SundayPit x, String marked, int sort) {
    due("ask() of '" + marked + "'", ask(x, marked.replace("^", "")), NOTHING);
    due("its fault(0), '" + marked + "'", x.fault(0), sort);
    due("its fault(1), '" + marked + "'", x.fault(1), marked.indexOf('^'));
  }

  // ---- images

  static int guard(int[] b, int length) {
    int c = 223;
    for (int i = 0; i < length; i++) c = (3 * c + b[i]) % 251;
    return c;
  }
  static int[] image(SundayPit x) {
    int[] b = new int[x.image()];
    for (int i = 0; i < b.length; i++) b[i] = x.octet(i);
    return b;
  }
  /** The image with one byte changed, and its last byte as is due then. */
  static int[] with(int[] image, int at, int value) {
    int[] b = image.clone();
    b[at] = value;
    b[b.length - 1] = guard(b, b.length - 1);
    return b;
  }
  /** A new object with this pit, its CELLS as these signs: . WHOLE, o cut, p propped, # FALLEN. */
  static SundayPit worked(String text, String cells) {
    SundayPit x = told(text);
    int[] b = image(x);
    int first = b.length - 1 - cells.length();
    for (int i = 0; i < cells.length(); i++) b[first + i] = ".op#".indexOf(cells.charAt(i));
    b[b.length - 1] = guard(b, b.length - 1);
    if (first != 7 + x.has(2) || !on(x, b)) tell("no image for " + cells);
    return x;
  }
  /** The CELLS in the same signs. */
  static String cells(SundayPit x) {
    StringBuilder b = new StringBuilder();
    int count = x.has(0) * x.has(1);
    for (int i = 0; i < count; i++) b.append(".op#".charAt(x.cell(i, 1)));
    return b.toString();
  }
  static void lie(String what, SundayPit x, String want) {
    String got = cells(x);
    if (!got.equals(want)) System.out.println(what + ": the CELLS are " + got + ", due is " + want);
    yes(what, got.equals(want));
  }
}
