import java.io.IOException;
import java.lang.reflect.Constructor;
import java.lang.reflect.Field;
import java.lang.reflect.Method;
import java.lang.reflect.Modifier;
import java.nio.file.Files;
import java.nio.file.Path;
import java.util.ArrayList;
import java.util.List;
import java.util.Set;
import java.util.TreeSet;
import java.util.regex.Matcher;
import java.util.regex.Pattern;

/** The rules of LANGUAGE.md that a look at the class and its text can tell. */
public final class LanguageTest {
  private static final Path SOURCE = Path.of("src/main/java/LineDealer.java");
  private static final Set<String> FACE = Set.of(
      "public int line(int,int)", "public boolean rule(int)", "public boolean weights(int,int)",
      "public boolean window(int)", "public boolean leave(int)", "public int better(int)", "public int more()",
      "public int less(int)", "public int host(int)", "public int load(int)", "public int copies(int)",
      "public int all()", "public int degree(int)", "public int room()", "public int best()", "public int part(int)",
      "public int run(int)", "public int master(int)", "public int count(int)");
  private static int wrong = 0;

  public static void main(String[] args) throws IOException {
    theFace();
    theClassesInside();
    theWords(bare(Files.readString(SOURCE)));
    System.out.println(wrong == 0 ? "the class keeps to the rules" : wrong + " rules are broken");
    if (wrong != 0) System.exit(1);
  }

  private static void must(boolean holds, String rule) {
    if (holds) return;
    wrong++;
    System.out.println("broken: " + rule);
  }

  private static void theFace() {
    Class<?> c = LineDealer.class;
    must(Modifier.isPublic(c.getModifiers()) && Modifier.isFinal(c.getModifiers()), "rule 1: public and final");
    Set<String> seen = new TreeSet<>();
    for (Method m : c.getDeclaredMethods()) {
      if (!Modifier.isPrivate(m.getModifiers())) seen.add(m.toString().replace("LineDealer.", ""));
    }
    must(seen.equals(new TreeSet<>(FACE)), "rule 1: the methods of the document and no others: " + seen);
    Constructor<?>[] made = c.getDeclaredConstructors();
    must(made.length == 1 && made[0].toString().equals("public LineDealer(int)"), "rule 1: one constructor");
    List<String> open = new ArrayList<>();
    for (Field f : c.getDeclaredFields()) if (!Modifier.isPrivate(f.getModifiers())) open.add(f.toString());
    must(open.equals(List.of("public static final int LineDealer.NONE")), "rule 1: NONE and no other field: " + open);
  }

  private static void theClassesInside() {
    List<Class<?>> classes = new ArrayList<>(List.of(LineDealer.class.getDeclaredClasses()));
    for (Class<?> c : classes) must(Modifier.isStatic(c.getModifiers()), "rule 2: static: " + c);
    classes.add(LineDealer.class);
    must(classes.size() <= 12, "rule 11: twelve classes");
    Set<String> names = new TreeSet<>();
    for (String call : FACE) names.add(call.replaceAll(".* (\\w+)\\(.*", "$1"));
    for (Class<?> c : classes) {
      int fields = 0;
      for (Field f : c.getDeclaredFields()) {
        int m = f.getModifiers();
        if (!Modifier.isStatic(m)) fields++;
        must(!Modifier.isStatic(m) || Modifier.isFinal(m), "rule 5: static and not final: " + f);
      }
      must(fields <= 20, "rule 11: twenty fields: " + c);
      for (Method m : c.getDeclaredMethods()) {
        must(m.getParameterCount() <= 7, "rule 11: seven parameters: " + m);
        must(Modifier.isPublic(m.getModifiers()) || !names.contains(m.getName()), "rule 1: a name of the face: " + m);
      }
    }
  }

  private static void theWords(String text) {
    String[] words = {"throw", "throws", "try", "catch", "synchronized", "assert", "package", "float", "double",
      "volatile", "native", "Exact", "System\\.(?!arraycopy)", "Random", "Thread", "equals", "hashCode", "toString"};
    for (String word : words) must(!Pattern.compile("\\b" + word + "\\b").matcher(text).find(), "the word " + word);
    for (String sign : new String[] {"->", "::", "static {", "@"}) must(!text.contains(sign), "the sign " + sign);
    Matcher imports = Pattern.compile("import ([^;]*);").matcher(text);
    Set<String> allowed = Set.of("java.util.Arrays", "java.util.ArrayList", "java.util.List", "java.util.Iterator");
    while (imports.find()) must(allowed.contains(imports.group(1)), "rule 4: import " + imports.group(1));
    for (int i = 0; i < text.length(); i++) must(text.charAt(i) < 128, "plain signs alone: at " + i);
  }

  private static String bare(String source) {
    return source.replaceAll("(?s)/\\*.*?\\*/", " ").replaceAll("//[^\n]*", " ").replaceAll("\"[^\"\n]*\"", " ");
  }
}
