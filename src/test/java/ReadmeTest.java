import java.io.IOException;
import java.lang.reflect.Method;
import java.lang.reflect.Modifier;
import java.nio.file.Files;
import java.nio.file.Path;
import java.util.regex.Matcher;
import java.util.regex.Pattern;

/** What README.md says of the class's use: its example answers so, and no call is left out. */
public final class ReadmeTest {
  private static final Pattern ROW = Pattern.compile("dealer\\.(\\w+)\\(([^)]*)\\);\\s*// (-?\\w+)");

  public static void main(String[] args) throws IOException, ReflectiveOperationException {
    String text = Files.readString(Path.of("README.md"));
    LineDealer dealer = new LineDealer(2);
    Check.due("the example begins so", text.contains("LineDealer dealer = new LineDealer(2);"), true);
    Matcher rows = ROW.matcher(text);
    while (rows.find()) Check.due(rows.group(), call(dealer, rows.group(1), rows.group(2)), rows.group(3));
    for (Method m : LineDealer.class.getDeclaredMethods()) {
      if (Modifier.isPublic(m.getModifiers())) Check.due(m + " is told of", text.contains("| `" + m.getName() + "("), true);
    }
    Check.end("ReadmeTest");
  }

  private static String call(LineDealer dealer, String name, String numbers) throws ReflectiveOperationException {
    String[] parts = numbers.isEmpty() ? new String[0] : numbers.split(", ");
    Class<?>[] types = new Class<?>[parts.length];
    Object[] given = new Object[parts.length];
    for (int i = 0; i < parts.length; i++) {
      types[i] = int.class;
      given[i] = Integer.valueOf(parts[i]);
    }
    return String.valueOf(LineDealer.class.getMethod(name, types).invoke(dealer, given));
  }
}
