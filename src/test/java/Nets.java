import java.util.ArrayList;
import java.util.List;
import java.util.function.Supplier;
import java.util.function.ToIntFunction;

/** How the tests make nets, go beyond bounds, and ask all that can be asked. */
final class Nets {
  static final int NONE = -1;
  static final int LOW = Integer.MIN_VALUE;
  static final int HIGH = Integer.MAX_VALUE;
  static final int POINTS = 40;
  static final int MOST_LINES = 300;

  /** A net makes 310 calls at most, and one may follow: with these an object stays below its 512 calls. */
  private static final int QUESTIONS_OF_AN_OBJECT = 190;
  private static final List<ToIntFunction<LineDealer>> QUESTIONS = questions();

  private Nets() {
  }

  /** Just outside the bounds on both sides, and far outside them: what would fit if bits or signs were lost, too. */
  static int[] outside(int least, int greatest) {
    return new int[] {least - 1, least - 2, greatest + 1, greatest + 2, -1000, 1000, least - 512, least + 512,
      least - 65536, least + 65536, least + (1 << 30), LOW, LOW + 1, LOW + greatest + 1, HIGH - 1, HIGH};
  }

  static LineDealer made(int hosts, int rule, int slack, int lean) {
    LineDealer x = new LineDealer(hosts);
    x.rule(rule);
    x.weights(slack, lean);
    return x;
  }

  /** By RULE 0 a net from which no line leaves has line i on host i % hosts, whatever the points are. */
  static LineDealer even(int hosts, int lines) {
    LineDealer x = made(hosts, 0, 20, 5);
    bring(x, lines);
    return x;
  }

  /** Lines that come are of many points, some of the same ones. */
  static void bring(LineDealer x, int lines) {
    for (int i = 0; i < lines; i++) x.line(i * 7 % 40, (i * 7 + 1 + i / 8) % 40);
  }

  /** Deals lines (u, v, u, v, ..) and gives their hosts as one sign each, in a row. */
  static String deal(LineDealer x, int... ends) {
    StringBuilder hosts = new StringBuilder();
    for (int i = 0; i + 1 < ends.length; i += 2) hosts.append(sign(x.line(ends[i], ends[i + 1])));
    return hosts.toString();
  }

  static String hosts(LineDealer x) {
    StringBuilder hosts = new StringBuilder();
    int came = x.count(1);
    for (int line = 0; line < came; line++) hosts.append(sign(x.host(line)));
    return hosts.toString();
  }

  static String loads(LineDealer x) {
    StringBuilder loads = new StringBuilder();
    int count = x.count(0);
    for (int host = 0; host < count; host++) loads.append(host == 0 ? "" : " ").append(x.load(host));
    return loads.toString();
  }

  /** All that can be asked, of as many new objects as it takes, and how such an object goes on. */
  static String answers(Supplier<LineDealer> net) {
    StringBuilder answers = new StringBuilder();
    LineDealer x = null;
    for (int i = 0; i < QUESTIONS.size(); i++) {
      if (i % QUESTIONS_OF_AN_OBJECT == 0) x = net.get();
      answers.append(QUESTIONS.get(i).applyAsInt(x)).append(' ');
    }
    return answers.append(sequel(net.get())).toString();
  }

  private static List<ToIntFunction<LineDealer>> questions() {
    List<ToIntFunction<LineDealer>> all = new ArrayList<>();
    all.add(LineDealer::all);
    all.add(LineDealer::room);
    all.add(LineDealer::best);
    for (int i = -1; i <= 11; i++) {
      int what = i;
      all.add(x -> x.count(what));
      all.add(x -> x.run(what));
      all.add(x -> x.load(what));
    }
    for (int i = -1; i <= POINTS; i++) {
      int point = i;
      all.add(x -> x.copies(point));
      all.add(x -> x.degree(point));
      all.add(x -> x.part(point));
      all.add(x -> x.master(point));
    }
    for (int i = -1; i <= MOST_LINES; i++) {
      int line = i;
      all.add(x -> x.host(line));
    }
    return all;
  }

  /** What is not asked for shows in what comes next. */
  private static String sequel(LineDealer x) {
    StringBuilder s = new StringBuilder("; ");
    s.append(deal(x, 0, 1, 2, 3, 38, 39, 0, 39, 0, 1)).append(' ').append(x.better(2)).append(' ').append(x.more());
    s.append(' ').append(deal(x, 4, 5, 0, 4)).append(' ').append(x.best()).append(' ').append(x.less(0));
    s.append(' ').append(x.master(39)).append(' ').append(x.run(1)).append(' ').append(x.better(50)).append(' ');
    s.append(loads(x)).append(' ').append(x.all()).append(' ').append(x.leave(x.count(1) - 1)).append(' ');
    int came = x.count(1);
    for (int line = Math.max(0, came - 60); line < came; line++) s.append(sign(x.host(line)));
    return s.append(' ').append(x.count(3)).toString();
  }

  private static String sign(int host) {
    return host == NONE ? "-" : Integer.toString(host);
  }
}
