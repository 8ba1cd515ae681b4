/** Promises 1 to 9, sentence by sentence: just inside each bound, just outside it and far outside it. */
public final class CallBoundsTest {
  private static final int NONE = Nets.NONE;

  public static void main(String[] args) {
    othersCountAsTheNearest();
    noSuchPoint();
    bothAreOne();
    threeHundredCame();
    threeHundredCameThoughFewAreLive();
    refusedLinesHaveNoNumber();
    noSuchRule();
    weightsThatCantBe();
    windowThatCantBe();
    tooManyLeaveAtOnce();
    windowOfAFullNet();
    noneSuchLiveToLeave();
    leavingAFullNet();
    movesOfAnotherNumber();
    asManyMovesAsAsked();
    movesEndWhereNoneLessens();
    moreThanEight();
    moreOnAFullNet();
    noSuchHostToGo();
    noneGoesOfTwo();
    hostsGoFromAFullNet();
    Check.end("CallBoundsTest");
  }

  /** Promise 1: "So many HOSTS (2 .. 8; others count as the nearest)." */
  private static void othersCountAsTheNearest() {
    for (int hosts = 2; hosts <= 8; hosts++) hasHosts(hosts, hosts);
    for (int odd : Nets.outside(2, 8)) hasHosts(odd, odd < 2 ? 2 : 8);
    hasHosts(0, 2);
    hasHosts(-1, 2);
    hasHosts(16, 8);
  }

  private static void hasHosts(int asked, int due) {
    String name = "1: LineDealer(" + asked + "): ";
    LineDealer x = new LineDealer(asked);
    Check.due(name + "count(0)", x.count(0), due);
    Check.due(name + "load of the last host", x.load(due - 1), 0);
    Check.due(name + "load of the next one", x.load(due), NONE);
    Check.due(name + "is as its nearest one", Nets.answers(() -> new LineDealer(asked)), Nets.answers(() -> new LineDealer(due)));
    x.rule(0);
    for (int i = 0; i <= due; i++) Check.due(name + "line " + i, x.line(0, 1), i % due);
  }

  /** Promise 2: "NONE if there is no such POINT" */
  private static void noSuchPoint() {
    LineDealer x = Nets.made(3, 0, 20, 5);
    int came = 0;
    for (int odd : Nets.outside(0, 39)) {
      for (int point : new int[] {0, 1, 20, 38, 39}) {
        Check.due("2: line(" + odd + ", " + point + ")", x.line(odd, point), NONE);
        Check.due("2: line(" + point + ", " + odd + ")", x.line(point, odd), NONE);
      }
      Check.due("2: line(" + odd + ", " + (odd + 1) + ")", x.line(odd, odd + 1), NONE);
      Check.due("2: a line comes between them", x.line(39, 0), came++ % 3);
    }
    Check.due("2: as many came", x.count(1), came);
    int[][] inside = {{0, 39}, {39, 0}, {0, 1}, {1, 0}, {38, 39}, {39, 38}};
    for (int[] p : inside) Check.due("2: line(" + p[0] + ", " + p[1] + ")", new LineDealer(2).line(p[0], p[1]), 0);
    LineDealer full = Nets.made(8, 0, 20, 5);
    full.window(3);
    Nets.bring(full, 3);
    for (int odd : Nets.outside(0, 39)) Check.due("2: line(" + odd + ", 5) in a full window", full.line(odd, 5), NONE);
    Check.due("2: none left the full window", Nets.hosts(full), "012");
  }

  /** Promise 2: "NONE if .. both are one" */
  private static void bothAreOne() {
    LineDealer x = Nets.made(2, 0, 20, 5);
    for (int point = 0; point < 40; point++) {
      Check.due("2: line(" + point + ", " + point + ")", x.line(point, point), NONE);
      Check.due("2: its degree", x.degree(point), point == 0 ? 0 : 1);
      if (point < 39) Check.due("2: line(" + point + ", " + (point + 1) + ")", x.line(point, point + 1), point % 2);
    }
    Check.due("2: only the others came", x.count(1), 39);
  }

  /** Promise 2: "NONE if .. 300 came." */
  private static void threeHundredCame() {
    for (int hosts = 2; hosts <= 8; hosts++) {
      LineDealer x = Nets.even(hosts, 299);
      Check.due("2: 299 came", x.count(1), 299);
      Check.due("2: the 300th line", x.line(4, 9), 299 % hosts);
      Check.due("2: its host", x.host(299), 299 % hosts);
      Check.due("2: the 301st line", x.line(4, 9), NONE);
      Check.due("2: of other points", x.line(9, 4), NONE);
      Check.due("2: 300 came", x.count(1), 300);
      Check.due("2: 300 are live", x.count(2), 300);
      Check.due("2: there is no line 300", x.host(300), NONE);
      x.rule(1);
      x.weights(100, 100);
      x.more();
      Check.due("2: still, after other settings", x.line(0, 1), NONE);
    }
    LineDealer same = new LineDealer(4);
    for (int i = 0; i < 300; i++) Check.due("2: line " + i + " of the same points comes", same.line(7, 8) >= 0, true);
    Check.due("2: degree of 300", same.degree(7), 300);
  }

  private static void threeHundredCameThoughFewAreLive() {
    LineDealer x = Nets.made(2, 0, 20, 5);
    x.window(1);
    for (int i = 0; i < 300; i++) Check.due("2: line " + i + " in a window of 1 comes", x.line(1, 2) >= 0, true);
    Check.due("2: one is live", x.count(2), 1);
    Check.due("2: 300 came, one is live", x.line(1, 2), NONE);
    Check.due("2: the last one did not leave for it", x.host(299) >= 0, true);
    Check.due("2: leave(299)", x.leave(299), true);
    Check.due("2: 300 came, none is live", x.line(1, 2), NONE);
    x.window(0);
    Check.due("2: 300 came, and no window", x.line(1, 2), NONE);
    Check.due("2: none is live", x.count(2), 0);
  }

  private static void refusedLinesHaveNoNumber() {
    LineDealer x = Nets.even(3, 299);
    for (int i = 0; i < 20; i++) x.line(i % 2 == 0 ? 40 : 5, 5);
    Check.due("2: refused ones don't count", x.count(1), 299);
    Check.due("2: the 300th line", x.line(5, 6), 2);
    Check.due("2: has number 299", x.host(299), 2);
  }

  /** Promise 3: "false if there is none such." */
  private static void noSuchRule() {
    for (LineDealer x : new LineDealer[] {new LineDealer(2), Nets.even(8, 300), Nets.even(3, 5)}) {
      for (int rule = 0; rule <= 2; rule++) {
        Check.due("3: rule(" + rule + ")", x.rule(rule), true);
        Check.due("3: count(7)", x.count(7), rule);
        for (int odd : Nets.outside(0, 2)) {
          Check.due("3: rule(" + odd + ")", x.rule(odd), false);
          Check.due("3: count(7) after it", x.count(7), rule);
        }
      }
    }
  }

  /** Promise 4: "false if they can't be."; "SLACK is 0 .. 100", "LEAN (0 .. 100 ..)". */
  private static void weightsThatCantBe() {
    for (LineDealer x : new LineDealer[] {new LineDealer(2), Nets.even(8, 300)}) {
      Check.due("4: at first", x.weights(20, 5), true);
      for (int[] w : new int[][] {{0, 0}, {0, 100}, {100, 0}, {100, 100}, {1, 99}, {99, 1}}) {
        Check.due("4: weights(" + w[0] + ", " + w[1] + ")", x.weights(w[0], w[1]), true);
        Check.due("4: slack", x.count(8), w[0]);
        Check.due("4: lean", x.count(9), w[1]);
      }
      for (int odd : Nets.outside(0, 100)) {
        for (int fine : new int[] {0, 60, 100}) {
          Check.due("4: weights(" + odd + ", " + fine + ")", x.weights(odd, fine), false);
          Check.due("4: weights(" + fine + ", " + odd + ")", x.weights(fine, odd), false);
        }
        Check.due("4: weights(" + odd + ", " + odd + ")", x.weights(odd, odd), false);
        Check.due("4: slack stays", x.count(8), 99);
        Check.due("4: lean stays", x.count(9), 1);
      }
    }
  }

  /** Promise 5: "WINDOW (0 .. 300): true; false if it can't be." */
  private static void windowThatCantBe() {
    for (LineDealer x : new LineDealer[] {new LineDealer(2), Nets.even(8, 300)}) {
      int live = x.count(2);
      for (int lines : new int[] {0, 300}) {
        Check.due("5: window(" + lines + ")", x.window(lines), true);
        Check.due("5: count(10)", x.count(10), lines);
        for (int odd : Nets.outside(0, 300)) {
          Check.due("5: window(" + odd + ")", x.window(odd), false);
          Check.due("5: count(10) after it", x.count(10), lines);
          Check.due("5: none leaves", x.count(2), live);
        }
      }
    }
    LineDealer empty = new LineDealer(3);
    for (int lines = 0; lines <= 300; lines++) Check.due("5: window(" + lines + ") of no lines", empty.window(lines), true);
    Check.due("5: none is live", empty.count(2), 0);
    LineDealer x = Nets.even(2, 3);
    x.window(3);
    x.window(301);
    x.window(-1);
    x.line(1, 2);
    Check.due("5: the old window stands", Nets.hosts(x), "-101");
  }

  /** Promise 5: "(Those that are too many leave at once.)" */
  private static void tooManyLeaveAtOnce() {
    LineDealer x = Nets.even(3, 6);
    x.window(7);
    Check.due("5: wider than live ones", Nets.hosts(x), "012012");
    x.window(6);
    Check.due("5: just as wide", Nets.hosts(x), "012012");
    x.window(5);
    Check.due("5: one too many", Nets.hosts(x), "-12012");
    x.leave(2);
    x.window(4);
    Check.due("5: one had left", Nets.hosts(x), "-1-012");
    x.window(2);
    Check.due("5: two too many", Nets.hosts(x), "----12");
    Check.due("5: two are live", x.count(2), 2);
    x.window(300);
    Check.due("5: none comes back", Nets.hosts(x), "----12");
    x.window(1);
    Check.due("5: the last one stays", Nets.hosts(x), "-----2");
    x.window(0);
    Check.due("5: 0 is no window", Nets.hosts(x), "-----2");
    Check.due("5: loads", Nets.loads(x), "0 0 1");
    Nets.deal(x, 0, 1, 0, 1, 0, 1);
    Check.due("5: all stay", x.count(2), 4);
  }

  private static void windowOfAFullNet() {
    LineDealer x = Nets.even(3, 300);
    x.window(300);
    Check.due("5: 300 of 300", x.count(2), 300);
    x.window(299);
    Check.due("5: 299 of 300", x.count(2), 299);
    Check.due("5: line 0 left", x.host(0), NONE);
    Check.due("5: line 1 stays", x.host(1), 1);
    x.window(1);
    Check.due("5: 1 of 300", x.count(2), 1);
    Check.due("5: line 298 left", x.host(298), NONE);
    Check.due("5: line 299 stays", x.host(299), 2);
    Check.due("5: two points have a copy", x.all(), 2);
    Check.due("5: 300 came", x.count(1), 300);
  }

  /** Promise 6: "false if there is none such LIVE." */
  private static void noneSuchLiveToLeave() {
    LineDealer empty = new LineDealer(2);
    for (int line = 0; line < 300; line++) Check.due("6: leave(" + line + ") of no lines", empty.leave(line), false);
    LineDealer x = Nets.even(2, 5);
    x.window(4);
    for (int odd : Nets.outside(0, 4)) Check.due("6: leave(" + odd + ")", x.leave(odd), false);
    Check.due("6: leave(0), which left the window", x.leave(0), false);
    Check.due("6: leave(299), which has not come", x.leave(299), false);
    Check.due("6: four are live", x.count(2), 4);
    Check.due("6: leave(1), the first", x.leave(1), true);
    Check.due("6: leave(4), the last", x.leave(4), true);
    Check.due("6: leave(1) again", x.leave(1), false);
    Check.due("6: leave(4) again", x.leave(4), false);
    Check.due("6: leave(5), the next", x.leave(5), false);
    Check.due("6: hosts", Nets.hosts(x), "--01-");
    x.line(0, 1);
    Check.due("6: leave(5), which came then", x.leave(5), true);
    Check.due("6: leave(2)", x.leave(2), true);
    Check.due("6: leave(3)", x.leave(3), true);
    Check.due("6: none is live", x.count(2), 0);
    Check.due("6: no copy", x.all(), 0);
    for (int line = 0; line <= 6; line++) Check.due("6: leave(" + line + ") when all left", x.leave(line), false);
  }

  private static void leavingAFullNet() {
    LineDealer x = Nets.even(8, 300);
    for (int odd : Nets.outside(0, 299)) Check.due("6: leave(" + odd + ") of 300", x.leave(odd), false);
    Check.due("6: all are live", x.count(2), 300);
    Check.due("6: leave(299)", x.leave(299), true);
    Check.due("6: leave(0)", x.leave(0), true);
    Check.due("6: 298 are live", x.count(2), 298);
    Check.due("6: leave(299) again", x.leave(299), false);
    Check.due("6: leave(0) again", x.leave(0), false);
    LineDealer anew = Nets.even(3, 6);
    anew.less(2);
    Check.due("6: leave(2), which was dealt anew", anew.leave(2), true);
    Check.due("6: leave(2) again", anew.leave(2), false);
  }

  /** Promise 7: "n at most (0 .. 50) ..: how many; NONE for another n." */
  private static void movesOfAnotherNumber() {
    LineDealer empty = new LineDealer(2);
    for (int n = 0; n <= 50; n++) Check.due("7: better(" + n + ") of no lines", empty.better(n), 0);
    for (int odd : Nets.outside(0, 50)) Check.due("7: better(" + odd + ") of no lines", empty.better(odd), NONE);
    LineDealer x = split();
    for (int odd : Nets.outside(0, 50)) Check.due("7: better(" + odd + ")", x.better(odd), NONE);
    Check.due("7: better(0)", x.better(0), 0);
    Check.due("7: no copy fewer", x.all(), 320);
    Check.due("7: no moves", x.count(3), 0);
  }

  /** Twenty pairs of points, with a line on each of eight hosts: each move of one to another saves two copies. */
  private static LineDealer split() {
    LineDealer x = Nets.made(8, 0, 100, 5);
    for (int i = 0; i < 160; i++) x.line(i / 8 * 2, i / 8 * 2 + 1);
    return x;
  }

  private static void asManyMovesAsAsked() {
    for (int n : new int[] {0, 1, 2, 49, 50}) {
      LineDealer x = split();
      Check.due("7: better(" + n + ") of many", x.better(n), n);
      Check.due("7: copies, two fewer by each", x.all(), 320 - 2 * n);
      Check.due("7: moves ever", x.count(3), n);
    }
    LineDealer x = split();
    Check.due("7: better(50)", x.better(50), 50);
    Check.due("7: better(50) once more", x.better(50), 50);
    Check.due("7: copies", x.all(), 120);
    Check.due("7: moves ever", x.count(3), 100);
  }

  /** Promise 7: "as long as one LESSENS: how many" */
  private static void movesEndWhereNoneLessens() {
    LineDealer one = Nets.even(2, 1);
    Check.due("7: better(50) of one line", one.better(50), 0);
    LineDealer x = Nets.made(2, 0, 100, 5);
    Nets.deal(x, 0, 1, 0, 1, 2, 3, 2, 3, 4, 5, 4, 5);
    // Three pairs: each is brought together by one move.
    Check.due("7: better(2)", x.better(2), 2);
    Check.due("7: better(1)", x.better(1), 1);
    Check.due("7: better(1), no more", x.better(1), 0);
    Check.due("7: better(50), no more", x.better(50), 0);
    Check.due("7: better(0)", x.better(0), 0);
    Check.due("7: copies", x.all(), 6);
    LineDealer y = Nets.made(2, 0, 100, 5);
    Nets.deal(y, 0, 1, 0, 1, 2, 3, 2, 3, 4, 5, 4, 5);
    Check.due("7: better(50) makes three", y.better(50), 3);
    LineDealer z = Nets.made(2, 0, 100, 5);
    Nets.deal(z, 0, 1, 0, 1, 2, 3, 2, 3, 4, 5, 4, 5);
    Check.due("7: better(3) makes three", z.better(3), 3);
    Check.due("7: moves ever", z.count(3), 3);
  }

  /** Promise 8: "how many there are; NONE if there are 8." */
  private static void moreThanEight() {
    LineDealer x = new LineDealer(2);
    for (int hosts = 3; hosts <= 8; hosts++) {
      Check.due("8: load of the host to come", x.load(hosts - 1), NONE);
      Check.due("8: more()", x.more(), hosts);
      Check.due("8: its load", x.load(hosts - 1), 0);
    }
    for (int i = 0; i < 3; i++) {
      Check.due("8: more() beside eight", x.more(), NONE);
      Check.due("8: eight", x.count(0), 8);
      Check.due("8: load(8)", x.load(8), NONE);
    }
    Check.due("8: less(7)", x.less(7), 0);
    Check.due("8: more() beside seven", x.more(), 8);
    Check.due("8: more() beside eight", x.more(), NONE);
    Check.due("8: more() of LineDealer(8)", new LineDealer(8).more(), NONE);
    Check.due("8: more() of LineDealer(7)", new LineDealer(7).more(), 8);
    Check.due("8: more() of LineDealer(9)", new LineDealer(9).more(), NONE);
  }

  private static void moreOnAFullNet() {
    LineDealer x = Nets.even(7, 300);
    Check.due("8: more() on a full net", x.more(), 8);
    Check.due("8: loads", Nets.loads(x), "43 43 43 43 43 43 42 0");
    Check.due("8: more() beside eight", x.more(), NONE);
    Check.due("8: host(299)", x.host(299), 299 % 7);
    Check.due("8: count(5), the least load", x.count(5), 0);
    Check.due("8: less(7), which is empty", x.less(7), 0);
    Check.due("8: loads", Nets.loads(x), "43 43 43 43 43 43 42");
  }

  /** Promise 9: "NONE if there is none such" */
  private static void noSuchHostToGo() {
    for (int hosts = 3; hosts <= 8; hosts++) {
      LineDealer x = Nets.even(hosts, hosts + 1);
      for (int odd : Nets.outside(0, hosts - 1)) {
        Check.due("9: less(" + odd + ") of " + hosts, x.less(odd), NONE);
        Check.due("9: as many", x.count(0), hosts);
      }
      Check.due("9: less of the last of " + hosts, x.less(hosts - 1), 1);
      Check.due("9: one fewer", x.count(0), hosts - 1);
      Check.due("9: its load", x.load(hosts - 1), NONE);
      LineDealer y = Nets.even(hosts, hosts + 1);
      Check.due("9: less of the first of " + hosts, y.less(0), 2);
      Check.due("9: one fewer", y.count(0), hosts - 1);
      Check.due("9: those behind have one number less", y.host(hosts - 1), hosts - 2);
      LineDealer empty = new LineDealer(hosts);
      Check.due("9: less(" + (hosts - 1) + ") of no lines", empty.less(hosts - 1), 0);
      Check.due("9: then there is none such", empty.less(hosts - 1), NONE);
    }
  }

  /** Promise 9: "NONE if .. there are 2." */
  private static void noneGoesOfTwo() {
    for (LineDealer x : new LineDealer[] {new LineDealer(2), Nets.even(2, 300), new LineDealer(-5)}) {
      int live = x.count(2);
      for (int host = 0; host <= 2; host++) Check.due("9: less(" + host + ") of two", x.less(host), NONE);
      for (int odd : Nets.outside(0, 1)) Check.due("9: less(" + odd + ") of two", x.less(odd), NONE);
      Check.due("9: two", x.count(0), 2);
      Check.due("9: live ones", x.count(2), live);
      x.more();
      Check.due("9: less(2) of three", x.less(2), 0);
      Check.due("9: less(1) of two", x.less(1), NONE);
    }
  }

  private static void hostsGoFromAFullNet() {
    LineDealer x = Nets.even(3, 300);
    Check.due("9: less(1) of a full net", x.less(1), 100);
    Check.due("9: loads", Nets.loads(x), "150 150");
    Check.due("9: host(0) stays", x.host(0), 0);
    Check.due("9: host(2) has one number less", x.host(2), 1);
    Check.due("9: host(1), the first dealt anew", x.host(1), 0);
    Check.due("9: host(4), the second", x.host(4), 1);
    Check.due("9: host(298), the hundredth", x.host(298), 1);
    Check.due("9: all are live", x.count(2), 300);
    Check.due("9: none came", x.count(1), 300);
    LineDealer y = Nets.even(8, 300);
    int[] dealtAnew = {38, 43, 50, 60, 75, 100};
    for (int i = 0; i < 6; i++) Check.due("9: less(0) of " + (8 - i), y.less(0), dealtAnew[i]);
    Check.due("9: less(0) of two", y.less(0), NONE);
    Check.due("9: loads", Nets.loads(y), "150 150");
    LineDealer z = Nets.even(4, 300);
    z.window(3);
    // Lines 297 on host 1, 298 on 2 and 299 on 3 are live.
    Check.due("9: less(0), whose lines left", z.less(0), 0);
    Check.due("9: less(2), in a full window", z.less(2), 1);
    Check.due("9: three are live", z.count(2), 3);
    Check.due("9: host(299), dealt anew", z.host(299), 0);
  }
}
