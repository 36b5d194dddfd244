import java.io.IOException;
import java.lang.reflect.Constructor;
import java.lang.reflect.Field;
import java.lang.reflect.Method;
import java.lang.reflect.Modifier;
import java.nio.file.Files;
import java.nio.file.Path;
import java.util.Random;
import java.util.TreeSet;
import java.util.regex.Matcher;
import java.util.regex.Pattern;

/** The document's face and no more, some rules of LANGUAGE.md, and that no call ever throws. */
public final class FaceTests {
  private static int wrong = 0;

  private static final String[] FACE = {
      "int feed(int,int,int,int,int)", "boolean end(int)", "int pit()", "int fault(int)", "int has(int)",
      "int letter(int,int,int)", "int kind(int,int)", "int cell(int,int)", "int house(int,int)", "int judge()",
      "int judged(int)", "int best(int,int)", "long rivals(int,int)", "int stores(int)", "int cut(int)",
      "boolean prop(int)", "boolean burn(int)", "int days(int)", "boolean undo()", "boolean seed(int)", "int bores()",
      "int fits(int)", "int next(int)", "int theft(int,int)", "long ask()", "int image()", "int octet(int)",
      "boolean on()", "int status(int)"};

  private static void check(String what, boolean isSo) {
    if (!isSo) {
      wrong++;
      System.out.println("not so: " + what);
    }
  }

  private static String signature(Method m) {
    StringBuilder b = new StringBuilder(m.getReturnType().getName()).append(' ').append(m.getName()).append('(');
    for (int i = 0; i < m.getParameterCount(); i++) b.append(i > 0 ? "," : "").append(m.getParameterTypes()[i].getName());
    return b.append(')').toString();
  }

  private static void face() {
    TreeSet<String> want = new TreeSet<>(java.util.List.of(FACE)), got = new TreeSet<>(), names = new TreeSet<>();
    for (String s : FACE) names.add(s.substring(s.indexOf(' ') + 1, s.indexOf('(')));
    for (Method m : SundayPit.class.getDeclaredMethods()) {
      if (Modifier.isPublic(m.getModifiers())) got.add(signature(m));
      else check(m + " is private and has a name of its own", Modifier.isPrivate(m.getModifiers()) && !names.contains(m.getName()));
    }
    check("the methods are those of the document: " + got, got.equals(want));
    check("public and final", Modifier.isPublic(SundayPit.class.getModifiers()) && Modifier.isFinal(SundayPit.class.getModifiers()));
    TreeSet<String> constants = new TreeSet<>();
    for (Field f : SundayPit.class.getDeclaredFields()) {
      if (Modifier.isPublic(f.getModifiers())) constants.add(f.getType() + " " + f.getName());
      else check(f + " is private", Modifier.isPrivate(f.getModifiers()));
    }
    check("the constants: " + constants, constants.equals(new TreeSet<>(java.util.List.of("int NONE", "long NOTHING"))));
    Constructor<?>[] makers = SundayPit.class.getDeclaredConstructors();
    check("one public constructor", makers.length == 1 && Modifier.isPublic(makers[0].getModifiers()) && makers[0].getParameterCount() == 0);
    int classes = 1;
    for (Class<?> c : SundayPit.class.getDeclaredClasses()) {
      classes++;
      check(c + " is static", Modifier.isStatic(c.getModifiers()));
      check(c + " has few fields", java.util.Arrays.stream(c.getDeclaredFields()).filter(f -> !Modifier.isStatic(f.getModifiers())).count() <= 20);
      for (Method m : c.getDeclaredMethods()) check(m + " has a name of its own", !names.contains(m.getName()));
      for (Method m : c.getDeclaredMethods()) check(m + " has few parameters", m.getParameterCount() <= 7);
    }
    check("at most twelve classes", classes <= 12);
  }

  private static void source() throws IOException {
    String text = Files.readString(Path.of("src/main/java/SundayPit.java"));
    String bare = text.replaceAll("(?s)/\\*.*?\\*/", "").replaceAll("//[^\n]*", "").replaceAll("\"[^\"\n]*\"", "\"\"").replaceAll("'.'", "' '");
    String[] no = {"\\bthrow\\b", "\\bthrows\\b", "\\btry\\b", "\\bcatch\\b", "\\bsynchronized\\b", "\\bassert\\b", "->", "::",
        "\\bpackage\\b", "\\bprotected\\b", "Exact\\b", "\\bSystem\\.(?!arraycopy)", "\\bthis\\s*[,)]", "\\bwhile\\s*\\(\\s*true", "\\bequals\\(",
        "\\bnew\\s+\\w+\\s*\\([^()]*\\)\\s*\\{", "\\bvar\\b", "\\bObject\\b"};
    for (String rule : no) check("no " + rule, !Pattern.compile(rule).matcher(bare).find());
    Matcher imports = Pattern.compile("import ([\\w.]+);").matcher(bare);
    while (imports.find()) check("import " + imports.group(1), imports.group(1).equals("java.util.Arrays"));
    Matcher makes = Pattern.compile("\\bnew (\\w+)").matcher(bare);
    while (makes.find()) check("new " + makes.group(1), Pattern.compile("class " + makes.group(1) + "\\b|^int$").matcher(makes.group(1).equals("int") ? "int" : bare).find());
  }

  private static int odd(Random r) {
    switch (r.nextInt(6)) {
      case 0: return r.nextInt();
      case 1: return new int[] {Integer.MIN_VALUE, Integer.MAX_VALUE, -1, 0, 1, 20, 100, 47, 48, 1600, 1601}[r.nextInt(11)];
      default: return r.nextInt(14) - 2;
    }
  }

  private static void call(SundayPit x, Random r) {
    int a = odd(r), b = odd(r), c = odd(r);
    switch (r.nextInt(30)) {
      case 0: case 1: x.feed(r.nextInt(), r.nextInt(), r.nextInt(), 0x20202020, 0x01000201); break;
      case 2: x.end(a); break;
      case 3: x.pit(); break;
      case 4: x.fault(a); break;
      case 5: x.has(a); break;
      case 6: x.letter(a, b, c); break;
      case 7: x.kind(a, b); break;
      case 8: x.cell(a, b); break;
      case 9: x.house(a, b); break;
      case 10: x.judge(); break;
      case 11: x.judged(a); break;
      case 12: x.best(a, b); break;
      case 13: x.rivals(a, b); break;
      case 14: x.stores(a); break;
      case 15: x.cut(a); break;
      case 16: x.prop(a); break;
      case 17: x.burn(a); break;
      case 18: x.days(a); break;
      case 19: x.undo(); break;
      case 20: x.seed(a); break;
      case 21: x.bores(); break;
      case 22: x.fits(a); break;
      case 23: x.next(a); break;
      case 24: x.theft(a, b); break;
      case 25: x.ask(); break;
      case 26: x.image(); break;
      case 27: x.octet(a); break;
      case 28: x.on(); break;
      default: x.status(a); break;
    }
  }

  private static void told(SundayPit x, String text) {
    x.end(0);
    for (int i = 0; i < text.length(); i += 20) {
      int[] v = new int[5];
      for (int k = 0; k < 20; k++) v[k / 4] = v[k / 4] << 8 | (i + k < text.length() ? text.charAt(i + k) : ' ');
      x.feed(v[0], v[1], v[2], v[3], v[4]);
    }
    check("a pit for wild calls", x.pit() > 0);
  }

  /** Calls with any arguments: whatever they answer, none may throw. */
  private static void wild() {
    String[] pits = {"pit 3 at 0;", "pit 8 at 7;kind a rest 99 gas 99;" + "row aaxaaxaa;".repeat(6) + "house h at 7;house g at 0;",
        "pit 4 at 2;kind a rest 1 gas 9;kind b rest 2 gas 50;kind c rest 3 gas 0;kind d rest 4 gas 1;kind e rest 5 gas 2;mix a b;mix c e;row abcd;row edcb;row xaxa;holds 1;worth near/span*gas-7/(depth-1);may not [near>2];tilt open/fallen;house h at 1;"};
    for (int seed = 0; seed < 3000; seed++) {
      Random r = new Random(seed);
      SundayPit x = new SundayPit();
      if (seed % 4 > 0) told(x, pits[seed % 4 - 1]);
      try {
        for (int i = 0; i < 450; i++) call(x, r);
      } catch (RuntimeException | Error e) {
        check("wild run " + seed + " without " + e, false);
      }
    }
  }

  public static void main(String[] args) throws IOException {
    face();
    source();
    wild();
    System.out.println(wrong == 0 ? "the face and the wild calls are as due" : wrong + " are not as due");
    if (wrong != 0) System.exit(1);
  }
}
