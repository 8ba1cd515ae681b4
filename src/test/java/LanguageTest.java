import java.io.IOException;
import java.lang.reflect.Constructor;
import java.lang.reflect.Field;
import java.lang.reflect.Method;
import java.lang.reflect.Modifier;
import java.nio.file.Files;
import java.nio.file.Path;
import java.util.ArrayList;
import java.util.List;
import java.util.Set;
import java.util.TreeSet;

/** The class has the document's face and keeps to LANGUAGE.md, as far as a look at it can tell. */
public final class LanguageTest {
  private static final Path SOURCE = Path.of("src/main/java/LineDealer.java");
  private static final Set<String> FACE = Set.of(
      "public int line(int,int)", "public boolean rule(int)", "public boolean weights(int,int)",
      "public boolean window(int)", "public boolean leave(int)", "public int better(int)", "public int more()",
      "public int less(int)", "public int host(int)", "public int load(int)", "public int copies(int)",
      "public int all()", "public int degree(int)", "public int room()", "public int best()", "public int part(int)",
      "public int run(int)", "public int master(int)", "public int count(int)");

  /** Bodies of a method f(int a, boolean b) that each break a rule: were none told, the look would be idle. */
  private static final String[] BREACHES = {
    "b |= a > 1;", "b = b & a > 1;", "String s = \"a\" + a;", "throw new RuntimeException();",
    "try { a++; } finally { a--; }", "synchronized (this) { a++; }", "assert b;", "Runnable r = () -> { };",
    "Runnable r = this::g;", "Object o = new Object();", "a = Math.addExact(a, 1);", "long t = System.nanoTime();",
    "double d = Math.sqrt(a);", "Object o = new int[1]; int[] r = (int[]) o;", "while (true) { a++; }",
    "class Local { }", "a = hashCode();", "String s = String.valueOf(a);"};

  public static void main(String[] args) throws IOException {
    theFace();
    theNames();
    String source = Files.readString(SOURCE);
    for (String told : LanguageRules.brokenBy(source)) Check.due(told, "is broken", "holds");
    for (int i = 0; i < source.length(); i++) if (source.charAt(i) > 127) Check.due("sign " + i, source.charAt(i), 127);
    theLookItself();
    Check.end("LanguageTest");
  }

  private static void theFace() {
    Class<?> c = LineDealer.class;
    Check.due("rule 1: public and final", Modifier.toString(c.getModifiers()), "public final");
    Set<String> seen = new TreeSet<>();
    for (Method m : c.getDeclaredMethods()) {
      if (!Modifier.isPrivate(m.getModifiers())) seen.add(m.toString().replace("LineDealer.", ""));
    }
    Check.due("rule 1: the methods of the document and no others", seen.equals(new TreeSet<>(FACE)), true);
    Constructor<?>[] made = c.getDeclaredConstructors();
    Check.due("rule 1: one constructor", made.length, 1);
    Check.due("rule 1: the constructor", made[0].toString(), "public LineDealer(int)");
    List<String> open = new ArrayList<>();
    for (Field f : c.getDeclaredFields()) if (!Modifier.isPrivate(f.getModifiers())) open.add(f.toString());
    Check.due("rule 1: fields that are open", open.toString(), "[public static final int LineDealer.NONE]");
  }

  private static void theNames() {
    Set<String> names = new TreeSet<>();
    for (String call : FACE) names.add(call.replaceAll(".* (\\w+)\\(.*", "$1"));
    List<Class<?>> classes = new ArrayList<>(List.of(LineDealer.class.getDeclaredClasses()));
    classes.add(LineDealer.class);
    for (Class<?> c : classes) {
      for (Method m : c.getDeclaredMethods()) {
        boolean open = Modifier.isPublic(m.getModifiers());
        Check.due("rule 1: a name of the face: " + m, open || !names.contains(m.getName()), true);
      }
    }
  }

  private static void theLookItself() throws IOException {
    Check.due("a fine body", LanguageRules.brokenBy(withBody("a = Math.max(a, 1) | 2; b = b || a > 1;")).toString(), "[]");
    for (String body : BREACHES) Check.due("told: " + body, told(withBody(body)), true);
    Check.due("told: eight parameters", told(withMember("void f(int a, int b, int c, int d, int e, int f, int g, int h) { }")), true);
    Check.due("told: a long method", told(withBody("a++;\n".repeat(60))), true);
    Check.due("told: a field that is static", told(withMember("static int s;")), true);
    Check.due("told: a static block", told(withMember("static { }")), true);
    Check.due("told: an inner class", told(withMember("class Inner { }")), true);
    Check.due("told: an import", told("import java.util.Random;\n" + withBody("a++;")), true);
    Check.due("told: twelve classes inside", told(withMember(many(12, "static class C", " { }"))), true);
    Check.due("told: 21 fields", told(withMember(many(21, "int f", ";"))), true);
    StringBuilder chain = new StringBuilder("void c8() { }");
    for (int i = 7; i >= 0; i--) chain.append(" void c").append(i).append("() { c").append(i + 1).append("(); }");
    Check.due("told: nine deep", told(withMember(chain.toString())), true);
    Check.due("told: no Java", told("public final class LineDealer { int }"), true);
  }

  private static boolean told(String source) throws IOException {
    return !LanguageRules.brokenBy(source).isEmpty();
  }

  private static String many(int count, String head, String tail) {
    StringBuilder text = new StringBuilder();
    for (int i = 0; i < count; i++) text.append(head).append(i).append(tail).append(' ');
    return text.toString();
  }

  private static String withBody(String body) {
    return withMember("void f(int a, boolean b) { " + body + " } void g() { }");
  }

  private static String withMember(String member) {
    return "public final class LineDealer { " + member + " }";
  }
}
