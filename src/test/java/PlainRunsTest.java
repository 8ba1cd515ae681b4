import java.util.Random;

/** Long runs of calls, from seeds that are always the same, each answer beside that of PlainDealer. */
public final class PlainRunsTest {
  private static final int RUNS = 280;
  private static final int FULL_RUNS = 20;
  private static final int CALLS = 512;

  private final int seed;
  private final Random random;
  private final LineDealer dealer;
  private final PlainDealer plain;
  private final int points;
  private final int lineShare;
  private int calls = 0;
  private int wrong = 0;

  private PlainRunsTest(int seed) {
    this.seed = seed;
    random = new Random(seed);
    int hosts = seed % 3 == 0 ? 2 + random.nextInt(2) : random.nextInt(12) - 1;
    points = 3 + random.nextInt(40);
    lineShare = 20 + random.nextInt(70);
    dealer = new LineDealer(hosts);
    plain = new PlainDealer(hosts);
  }

  public static void main(String[] args) {
    int wrong = 0;
    for (int seed = 1; seed <= RUNS; seed++) wrong += new PlainRunsTest(seed).go();
    System.out.println(RUNS + " runs beside the plain dealer, " + wrong + " wrong answers");
    if (wrong != 0) System.exit(1);
  }

  private int go() {
    if (seed <= FULL_RUNS) fill();
    else if (seed % 3 == 0) same("window", 8, 0, bit(dealer.window(8)), bit(plain.window(8)));
    while (calls < CALLS - 1 && wrong == 0) {
      if (random.nextInt(100) < lineShare) deal();
      else change();
      ask();
      if (calls % 32 == 0) askAll();
    }
    askAll();
    return wrong;
  }

  /** Runs that ask after each step would never come to the 300th line. */
  private void fill() {
    same("rule", seed % 3, 0, bit(dealer.rule(seed % 3)), bit(plain.rule(seed % 3)));
    int most = Math.min(points, 40);
    while (plain.count(1) < 300 - seed % 10 && wrong == 0) {
      int u = random.nextInt(most);
      int v = (u + 1 + random.nextInt(most - 1)) % most;
      same("line", u, v, dealer.line(u, v), plain.line(u, v));
    }
  }

  private void deal() {
    int u = random.nextInt(points) - (random.nextInt(40) == 0 ? 1 : 0);
    int v = random.nextInt(points) + (random.nextInt(40) == 0 ? 1 : 0);
    same("line", u, v, dealer.line(u, v), plain.line(u, v));
  }

  private void change() {
    int a = random.nextInt(104) - 1;
    int b = random.nextInt(104) - 1;
    switch (random.nextInt(9)) {
      case 0: same("rule", a % 4, 0, bit(dealer.rule(a % 4)), bit(plain.rule(a % 4))); break;
      case 1: same("weights", a, b, bit(dealer.weights(a, b)), bit(plain.weights(a, b))); break;
      case 2: changeWindow(); break;
      case 3: {
        int host = random.nextInt(10) - 1;
        same("less", host, 0, dealer.less(host), plain.less(host));
        break;
      }
      case 4: same("more", 0, 0, dealer.more(), plain.more()); break;
      case 5: {
        int n = random.nextInt(8) == 0 ? random.nextInt(54) - 1 : random.nextInt(4);
        same("better", n, 0, dealer.better(n), plain.better(n));
        break;
      }
      default: {
        int line = random.nextInt(plain.count(1) + 2) - 1;
        same("leave", line, 0, bit(dealer.leave(line)), bit(plain.leave(line)));
      }
    }
  }

  private void changeWindow() {
    int[] choices = {-1, 0, 0, 1, 5, 7, 8, 9, 20, 60, 299, 300, 301};
    if (random.nextInt(4) != 0) return;
    int size = choices[random.nextInt(choices.length)];
    same("window", size, 0, bit(dealer.window(size)), bit(plain.window(size)));
  }

  private void ask() {
    int p = random.nextInt(42) - 1;
    int line = random.nextInt(plain.count(1) + 2) - 1;
    switch (random.nextInt(9)) {
      case 0: same("host", line, 0, dealer.host(line), plain.host(line)); break;
      case 1: same("copies", p, 0, dealer.copies(p), plain.copies(p)); break;
      case 2: same("all", 0, 0, dealer.all(), plain.all()); break;
      case 3: same("degree", p, 0, dealer.degree(p), plain.degree(p)); break;
      case 4: same("room", 0, 0, dealer.room(), plain.room()); break;
      case 5: same("part", p, 0, dealer.part(p), plain.part(p)); break;
      case 6: same("master", p, 0, dealer.master(p), plain.master(p)); break;
      case 7: same("run", p % 5, 0, dealer.run(p % 5), plain.run(p % 5)); break;
      default: same("best", 0, 0, dealer.best(), plain.best());
    }
  }

  /** These do not count as calls: they change nothing, so the run is the same without them. */
  private void askAll() {
    int kept = calls;
    for (int p = -1; p <= 40; p++) {
      same("copies", p, 0, dealer.copies(p), plain.copies(p));
      same("degree", p, 0, dealer.degree(p), plain.degree(p));
      same("part", p, 0, dealer.part(p), plain.part(p));
      same("master", p, 0, dealer.master(p), plain.master(p));
    }
    for (int h = -1; h <= 8; h++) same("load", h, 0, dealer.load(h), plain.load(h));
    for (int l = -1; l <= plain.count(1); l++) same("host", l, 0, dealer.host(l), plain.host(l));
    for (int w = -1; w <= 3; w++) same("run", w, 0, dealer.run(w), plain.run(w));
    for (int w = -1; w <= 11; w++) same("count", w, 0, dealer.count(w), plain.count(w));
    same("all", 0, 0, dealer.all(), plain.all());
    same("room", 0, 0, dealer.room(), plain.room());
    same("best", 0, 0, dealer.best(), plain.best());
    calls = kept;
  }

  private void same(String call, int a, int b, int got, int want) {
    calls++;
    if (got == want) return;
    wrong++;
    System.out.println("seed " + seed + ", call " + calls + ": " + call + "(" + a + ", " + b + ") answered "
        + got + ", the plain dealer " + want);
  }

  private static int bit(boolean b) {
    return b ? 1 : 0;
  }
}
