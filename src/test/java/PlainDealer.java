import java.util.ArrayList;
import java.util.Arrays;
import java.util.List;
import java.util.TreeSet;

/**
 * The document said once more, in its plainest form: only lines and their hosts are kept, and every
 * answer is counted anew from them. It is what LineDealer is compared with.
 */
final class PlainDealer {
  private static final int NONE = -1;

  private static final class Line {
    final int u;
    final int v;
    int host = NONE;

    Line(int u, int v) {
      this.u = u;
      this.v = v;
    }

    boolean has(int point) {
      return u == point || v == point;
    }

    boolean isLive() {
      return host != NONE;
    }
  }

  private final List<Line> lines = new ArrayList<>();
  private int hosts;
  private int rule = 2;
  private int slack = 20;
  private int lean = 5;
  private int window = 0;
  private int moves = 0;

  PlainDealer(int hosts) {
    this.hosts = hosts < 2 ? 2 : hosts > 8 ? 8 : hosts;
  }

  int line(int u, int v) {
    if (u < 0 || u > 39 || v < 0 || v > 39 || u == v || lines.size() == 300) return NONE;
    Line line = new Line(u, v);
    int host = hostFor(line);
    line.host = host;
    lines.add(line);
    narrow();
    return host;
  }

  boolean rule(int r) {
    if (r != 0 && r != 1 && r != 2) return false;
    rule = r;
    return true;
  }

  boolean weights(int s, int l) {
    if (s < 0 || s > 100 || l < 0 || l > 100) return false;
    slack = s;
    lean = l;
    return true;
  }

  boolean window(int w) {
    if (w < 0 || w > 300) return false;
    window = w;
    narrow();
    return true;
  }

  boolean leave(int number) {
    if (host(number) == NONE) return false;
    lines.get(number).host = NONE;
    return true;
  }

  int better(int n) {
    if (n < 0 || n > 50) return NONE;
    for (int made = 0; made < n; made++) {
      if (!moveOnce()) return made;
    }
    return n;
  }

  int more() {
    if (hosts == 8) return NONE;
    return ++hosts;
  }

  int less(int gone) {
    if (gone < 0 || gone >= hosts || hosts == 2) return NONE;
    List<Line> anew = new ArrayList<>();
    for (Line line : lines) {
      if (line.host == gone) {
        line.host = NONE;
        anew.add(line);
      } else if (line.host > gone) {
        line.host--;
      }
    }
    hosts--;
    for (Line line : anew) line.host = hostFor(line);
    return anew.size();
  }

  int host(int number) {
    return number < 0 || number >= lines.size() ? NONE : lines.get(number).host;
  }

  int load(int host) {
    if (host < 0 || host >= hosts) return NONE;
    int load = 0;
    for (Line line : live()) if (line.host == host) load++;
    return load;
  }

  int copies(int point) {
    if (point < 0 || point > 39) return NONE;
    int bits = 0;
    for (int host : hostsOf(point)) bits += 1 << host;
    return bits;
  }

  int all() {
    int all = 0;
    for (int point = 0; point < 40; point++) all += hostsOf(point).size();
    return all;
  }

  int degree(int point) {
    if (point < 0 || point > 39) return NONE;
    int degree = 0;
    for (Line line : live()) if (line.has(point)) degree++;
    return degree;
  }

  int room() {
    return roomFor(live().size());
  }

  int best() {
    List<Line> live = live();
    if (live.isEmpty() || live.size() > 8 || hosts > 3) return NONE;
    int[] kept = live.stream().mapToInt(line -> line.host).toArray();
    int dealings = (int) Math.round(Math.pow(hosts, live.size()));
    int best = Integer.MAX_VALUE;
    for (int dealing = 0; dealing < dealings; dealing++) {
      int rest = dealing;
      for (Line line : live) {
        line.host = rest % hosts;
        rest /= hosts;
      }
      if (greatestLoad() <= roomFor(live.size())) best = Math.min(best, all());
    }
    for (int i = 0; i < kept.length; i++) live.get(i).host = kept[i];
    return best;
  }

  int part(int point) {
    if (point < 0 || point > 39) return NONE;
    List<int[]> rounds = rounds();
    return rounds.get(rounds.size() - 1)[point];
  }

  int run(int what) {
    List<int[]> rounds = rounds();
    if (what == 0) return rounds.size();
    if (what == 1) {
      int letters = 0;
      for (int point = 0; point < 40; point++) {
        int c = hostsOf(point).size();
        if (c >= 2) letters += 2 * (c - 1);
      }
      return rounds.size() * letters;
    }
    if (what == 2) {
      TreeSet<Integer> parts = new TreeSet<>();
      for (Line line : live()) parts.add(part(line.u));
      return parts.size();
    }
    return NONE;
  }

  int master(int point) {
    if (point < 0 || point > 39) return NONE;
    int[] masters = new int[40];
    Arrays.fill(masters, NONE);
    for (int p = 0; p < 40; p++) {
      int fewest = Integer.MAX_VALUE;
      for (int host : hostsOf(p)) {
        int had = 0;
        for (int q = 0; q < p; q++) if (masters[q] == host) had++;
        if (had < fewest) {
          fewest = had;
          masters[p] = host;
        }
      }
    }
    return masters[point];
  }

  int count(int what) {
    int points = 0;
    for (int point = 0; point < 40; point++) if (copies(point) != 0) points++;
    int least = Integer.MAX_VALUE;
    for (int host = 0; host < hosts; host++) least = Math.min(least, load(host));
    int[] counts = {hosts, lines.size(), live().size(), moves, greatestLoad(), least, points, rule, slack, lean, window};
    return what < 0 || what >= counts.length ? NONE : counts[what];
  }

  private List<Line> live() {
    List<Line> live = new ArrayList<>();
    for (Line line : lines) if (line.isLive()) live.add(line);
    return live;
  }

  private TreeSet<Integer> hostsOf(int point) {
    TreeSet<Integer> on = new TreeSet<>();
    for (Line line : lines) if (line.isLive() && line.has(point)) on.add(line.host);
    return on;
  }

  private int roomFor(int n) {
    int room = 0;
    while (room * 100 * hosts < n * (100 + slack)) room++;
    return room;
  }

  private int greatestLoad() {
    int greatest = 0;
    for (int host = 0; host < hosts; host++) greatest = Math.max(greatest, load(host));
    return greatest;
  }

  private void narrow() {
    while (window != 0 && live().size() > window) live().get(0).host = NONE;
  }

  private int hostFor(Line line) {
    int room = roomFor(live().size() + 1);
    int chosen = NONE;
    for (int host = hosts - 1; host >= 0; host--) {
      if (load(host) < room && (chosen == NONE || score(line, host) >= score(line, chosen))) chosen = host;
    }
    return chosen;
  }

  private int score(Line line, int host) {
    int below = greatestLoad() - load(host);
    if (rule == 0) return below;
    if (rule == 1) return host == (line.u + line.v) % hosts ? 1 : 0;
    int du = degree(line.u) + 1;
    int dv = degree(line.v) + 1;
    int d = du + dv;
    int ofU = hostsOf(line.u).contains(host) ? 2 * d - du : 0;
    int ofV = hostsOf(line.v).contains(host) ? 2 * d - dv : 0;
    return (ofU + ofV) * 10 + lean * below;
  }

  private int squares() {
    int squares = 0;
    for (int host = 0; host < hosts; host++) squares += load(host) * load(host);
    return squares;
  }

  private boolean moveOnce() {
    int fewest = all();
    int least = squares();
    Line chosen = null;
    int chosenHost = NONE;
    int room = room();
    for (Line line : live()) {
      int home = line.host;
      for (int host = 0; host < hosts; host++) {
        if (host == home || load(host) >= room) continue;
        line.host = host;
        int all = all();
        int squares = squares();
        line.host = home;
        if (all < fewest || (all == fewest && squares < least)) {
          fewest = all;
          least = squares;
          chosen = line;
          chosenHost = host;
        }
      }
    }
    if (chosen == null) return false;
    chosen.host = chosenHost;
    moves++;
    return true;
  }

  private List<int[]> rounds() {
    List<int[]> rounds = new ArrayList<>();
    int[] old = new int[40];
    for (int point = 0; point < 40; point++) old[point] = point;
    while (true) {
      int[] next = old.clone();
      for (Line line : live()) {
        next[line.u] = Math.min(next[line.u], old[line.v]);
        next[line.v] = Math.min(next[line.v], old[line.u]);
      }
      rounds.add(next);
      if (Arrays.equals(next, old)) return rounds;
      old = next;
    }
  }
}
