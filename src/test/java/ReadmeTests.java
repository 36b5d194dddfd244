import java.lang.reflect.Method;
import java.nio.file.Files;
import java.nio.file.Path;
import java.util.regex.Matcher;
import java.util.regex.Pattern;

/** Makes the calls of README.md's example, line by line, and compares the answers that stand behind them. */
public final class ReadmeTests {
  private static final Pattern CALL = Pattern.compile("x\\.(\\w+)\\(([^)]*)\\); // (\\S+)");
  private static final Pattern TEXT = Pattern.compile("tell\\(x, \"(.*)\"\\);");

  private static SundayPit x = null;
  private static int made = 0;
  private static int wrong = 0;

  public static void main(String[] args) throws Exception {
    for (String line : Files.readAllLines(Path.of("README.md"))) {
      Matcher call = CALL.matcher(line);
      Matcher text = TEXT.matcher(line);
      if (line.equals("SundayPit x = new SundayPit();")) {
        x = new SundayPit();
      } else if (call.matches()) {
        check(line, call.group(1), call.group(2), call.group(3));
      } else if (text.matches()) {
        tell(x, text.group(1).translateEscapes());
      }
    }
    if (made < 30) {
      wrong++;
      System.out.println("README.md has " + made + " calls alone");
    }
    if (wrong > 0) {
      System.exit(1);
    }
    System.out.println(made + " calls of README.md answer as it says");
  }

  private static void check(String line, String name, String numbers, String due) throws Exception {
    made++;
    String got = answer(name, numbers);
    if (!got.equals(String.valueOf(valueOf(due)))) {
      wrong++;
      System.out.println(line + " answered " + got);
    }
  }

  private static String answer(String name, String numbers) throws Exception {
    String[] parts = numbers.isEmpty() ? new String[0] : numbers.split(", ");
    Object[] values = new Object[parts.length];
    for (int i = 0; i < parts.length; i++) {
      values[i] = Integer.valueOf(String.valueOf(valueOf(parts[i])));
    }
    for (Method method : SundayPit.class.getMethods()) {
      if (method.getName().equals(name) && method.getParameterCount() == parts.length) {
        return String.valueOf(method.invoke(x, values));
      }
    }
    return "no such call";
  }

  private static Object valueOf(String word) {
    switch (word) {
      case "NONE": return SundayPit.NONE;
      case "NOTHING": return SundayPit.NOTHING;
      default: return word;
    }
  }

  /** As it stands in README.md. */
  static void tell(SundayPit x, String text) {
    for (int from = 0; from < text.length(); from += 20) {
      int[] five = new int[5];
      for (int i = 0; i < 20; i++) {
        int sign = from + i < text.length() ? text.charAt(from + i) : ' ';
        five[i / 4] = five[i / 4] << 8 | sign & 255;
      }
      int length = x.feed(five[0], five[1], five[2], five[3], five[4]);
      x.end(Math.min(length, length - 20 + text.length() - from));
    }
  }
}
