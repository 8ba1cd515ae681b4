/** Says which answers are not as due, and ends a test with exit code 1 if there was one. */
final class Check {
  private static int asked = 0;
  private static int wrong = 0;

  private Check() {
  }

  static void due(String what, int got, int want) {
    due(what, Integer.toString(got), Integer.toString(want));
  }

  static void due(String what, boolean got, boolean want) {
    due(what, Boolean.toString(got), Boolean.toString(want));
  }

  static void due(String what, String got, String want) {
    asked++;
    if (got.equals(want)) return;
    wrong++;
    System.out.println(what + ": answered " + cut(got, want) + ", due is " + cut(want, got));
  }

  /** Of a long text, the place where the other one is different. */
  private static String cut(String text, String other) {
    if (text.length() <= 100) return text;
    int at = 0;
    while (at < text.length() && at < other.length() && text.charAt(at) == other.charAt(at)) at++;
    return "(at " + at + ") " + text.substring(Math.max(0, at - 10), Math.min(text.length(), at + 60));
  }

  /** A test that asked nothing is no test. */
  static void end(String test) {
    System.out.println(test + ": " + asked + " answers, " + wrong + " not as due");
    if (wrong != 0 || asked == 0) System.exit(1);
  }
}
