/** Promises 10 to 20, sentence by sentence: just inside each bound, just outside it and far outside it. */
public final class AnswerBoundsTest {
  private static final int NONE = Nets.NONE;

  public static void main(String[] args) {
    hostOfALineThatIsNotLive();
    hostOfNoSuchLine();
    loadOfNoSuchHost();
    copiesOfNoSuchPoint();
    copiesOnAllHosts();
    copiesOfAllPoints();
    degreeOfNoSuchPoint();
    roomOfEmptyAndFullNets();
    bestOfNetsThatCanBeAsked();
    bestWithTheRoomJustReached();
    bestOfFewLeftOfMany();
    partOfNoSuchPoint();
    partsOfEmptyAndFullNets();
    runOfOthers();
    runOfEmptyAndFullNets();
    masterOfNoSuchPoint();
    masterOfNoCopy();
    countOfOthers();
    countsOfAnEmptyNet();
    countsOfAFullNet();
    greatestAndLeastLoad();
    Check.end("AnswerBoundsTest");
  }

  /** Promise 10: "NONE if it isn't LIVE" */
  private static void hostOfALineThatIsNotLive() {
    LineDealer x = Nets.even(3, 6);
    x.leave(0);
    x.leave(5);
    Check.due("10: host(0), which left", x.host(0), NONE);
    Check.due("10: host(5), which left", x.host(5), NONE);
    Check.due("10: host(1)", x.host(1), 1);
    Check.due("10: host(4)", x.host(4), 1);
    x.window(1);
    Check.due("10: host(3), which left the window", x.host(3), NONE);
    Check.due("10: host(4), the last", x.host(4), 1);
    LineDealer full = Nets.even(8, 300);
    full.leave(299);
    full.leave(0);
    Check.due("10: host(299) of 300, which left", full.host(299), NONE);
    Check.due("10: host(0) of 300, which left", full.host(0), NONE);
    Check.due("10: host(298)", full.host(298), 298 % 8);
    Check.due("10: host(1)", full.host(1), 1);
  }

  /** Promise 10: "NONE if .. there is none such." */
  private static void hostOfNoSuchLine() {
    LineDealer empty = new LineDealer(2);
    for (int line = 0; line < 300; line += 23) Check.due("10: host(" + line + ") of no lines", empty.host(line), NONE);
    for (int came : new int[] {1, 7, 299, 300}) {
      LineDealer x = Nets.even(8, came);
      for (int odd : Nets.outside(0, came - 1)) Check.due("10: host(" + odd + ") of " + came, x.host(odd), NONE);
      Check.due("10: host(0) of " + came, x.host(0), 0);
      Check.due("10: the last one of " + came, x.host(came - 1), (came - 1) % 8);
    }
  }

  /** Promise 11: "NONE if there is no such HOST." */
  private static void loadOfNoSuchHost() {
    for (int hosts = 2; hosts <= 8; hosts++) {
      LineDealer empty = new LineDealer(hosts);
      LineDealer full = Nets.even(hosts, 300);
      for (int odd : Nets.outside(0, hosts - 1)) {
        Check.due("11: load(" + odd + ") of " + hosts + ", empty", empty.load(odd), NONE);
        Check.due("11: load(" + odd + ") of " + hosts + ", full", full.load(odd), NONE);
      }
      for (int host = 0; host < hosts; host++) {
        Check.due("11: load(" + host + ") of " + hosts + ", empty", empty.load(host), 0);
        Check.due("11: load(" + host + ") of " + hosts + ", full", full.load(host), (300 + hosts - 1 - host) / hosts);
      }
    }
    LineDealer x = new LineDealer(7);
    x.more();
    Check.due("11: load(7), which came", x.load(7), 0);
    x.less(0);
    Check.due("11: load(7), one fewer", x.load(7), NONE);
    Check.due("11: load(6)", x.load(6), 0);
  }

  /** Promise 12: "NONE if there is none such." */
  private static void copiesOfNoSuchPoint() {
    LineDealer empty = new LineDealer(8);
    for (int point = 0; point < 40; point++) Check.due("12: copies(" + point + ") of no lines", empty.copies(point), 0);
    LineDealer full = ring();
    for (int odd : Nets.outside(0, 39)) {
      Check.due("12: copies(" + odd + "), empty", empty.copies(odd), NONE);
      Check.due("12: copies(" + odd + "), full", full.copies(odd), NONE);
    }
    LineDealer x = Nets.made(2, 1, 100, 5);
    Nets.deal(x, 0, 39, 0, 38);
    Check.due("12: copies(0)", x.copies(0), 3);
    Check.due("12: copies(38)", x.copies(38), 1);
    Check.due("12: copies(39)", x.copies(39), 2);
    Check.due("12: copies(37)", x.copies(37), 0);
  }

  /** 280 lines, seven between any two points side by side, so that all 40 points are one part. */
  private static LineDealer ring() {
    LineDealer x = Nets.made(7, 0, 20, 5);
    for (int i = 0; i < 280; i++) x.line(i / 7, (i / 7 + 1) % 40);
    return x;
  }

  private static void copiesOnAllHosts() {
    LineDealer x = Nets.made(8, 1, 100, 0);
    int bits = 0;
    for (int i = 0; i < 8; i++) {
      x.line(0, i + 8);
      bits |= 1 << i;
      Check.due("12: copies(0) on hosts 0 .. " + i, x.copies(0), bits);
      Check.due("12: copies(" + (i + 8) + ")", x.copies(i + 8), 1 << i);
    }
    x.leave(7);
    Check.due("12: copies(0) without host 7", x.copies(0), 127);
    x.leave(0);
    Check.due("12: copies(0) without host 0", x.copies(0), 126);
    x.less(0);
    Check.due("12: copies(0), one number less", x.copies(0), 63);
    LineDealer full = ring();
    for (int point = 0; point < 40; point++) Check.due("12: copies(" + point + ") of a full net", full.copies(point), 127);
  }

  /** Promise 13: "COPIES of all POINTS, together." */
  private static void copiesOfAllPoints() {
    for (int hosts = 2; hosts <= 8; hosts++) Check.due("13: all() of no lines", new LineDealer(hosts).all(), 0);
    Check.due("13: all() of a full net", ring().all(), 40 * 7);
    LineDealer x = Nets.even(2, 1);
    Check.due("13: all() of one line", x.all(), 2);
    x.leave(0);
    Check.due("13: all() when it left", x.all(), 0);
    LineDealer most = Nets.made(8, 0, 20, 5);
    for (int i = 0; i < 160; i++) most.line(i / 8 * 2, i / 8 * 2 + 1);
    Check.due("13: all(), each point on each host", most.all(), 320);
    most.window(8);
    Check.due("13: all() of the last eight", most.all(), 16);
  }

  /** Promise 14: "NONE if there is no such POINT." */
  private static void degreeOfNoSuchPoint() {
    LineDealer empty = new LineDealer(2);
    LineDealer full = ring();
    for (int odd : Nets.outside(0, 39)) {
      Check.due("14: degree(" + odd + "), empty", empty.degree(odd), NONE);
      Check.due("14: degree(" + odd + "), full", full.degree(odd), NONE);
    }
    for (int point = 0; point < 40; point++) {
      Check.due("14: degree(" + point + "), empty", empty.degree(point), 0);
      Check.due("14: degree(" + point + "), full", full.degree(point), 14);
    }
    LineDealer x = new LineDealer(3);
    for (int i = 0; i < 300; i++) x.line(0, 39);
    Check.due("14: degree(0) of 300", x.degree(0), 300);
    Check.due("14: degree(39) of 300", x.degree(39), 300);
    Check.due("14: degree(1)", x.degree(1), 0);
    x.leave(0);
    Check.due("14: degree(0) of 299", x.degree(0), 299);
    x.window(1);
    Check.due("14: degree(39) of 1", x.degree(39), 1);
    x.leave(299);
    Check.due("14: degree(39) of none", x.degree(39), 0);
  }

  /** Promise 15: "ROOM for all LIVE LINES." */
  private static void roomOfEmptyAndFullNets() {
    for (int hosts = 2; hosts <= 8; hosts++) {
      LineDealer empty = new LineDealer(hosts);
      for (int slack : new int[] {0, 20, 100}) {
        empty.weights(slack, 5);
        Check.due("15: room() of no lines", empty.room(), 0);
      }
    }
    LineDealer x = Nets.even(8, 300);
    Check.due("15: 300 lines, slack 20, 8 hosts", x.room(), 45);
    x.weights(0, 5);
    Check.due("15: slack 0: 37 and a half", x.room(), 38);
    x.weights(100, 5);
    Check.due("15: slack 100", x.room(), 75);
    x.leave(0);
    Check.due("15: 299 lines: 74 and three quarters", x.room(), 75);
    x.window(296);
    Check.due("15: 296 lines", x.room(), 74);
    x.window(1);
    Check.due("15: one line: a quarter", x.room(), 1);
    x.leave(299);
    Check.due("15: none is live", x.room(), 0);
  }

  /** Promise 16: "NONE if it can't be asked."; "a net of 1 to 8 LIVE LINES on 2 or 3 HOSTS". */
  private static void bestOfNetsThatCanBeAsked() {
    for (int hosts = 2; hosts <= 8; hosts++) {
      for (int live = 0; live <= 12; live++) {
        LineDealer x = Nets.made(hosts, 0, 100, 5);
        for (int i = 0; i < live; i++) x.line(2 * i, 2 * i + 1);
        boolean canBe = live >= 1 && live <= 8 && hosts <= 3;
        // Lines without a point in common have two copies each, however they are dealt.
        Check.due("16: best() of " + live + " lines on " + hosts + " hosts", x.best(), canBe ? 2 * live : NONE);
      }
      Check.due("16: best() of a full net on " + hosts, Nets.even(hosts, 300).best(), NONE);
    }
  }

  /** "with no LOAD above the ROOM for them all": a star of k lines has k copies and one for each host that it needs. */
  private static void bestWithTheRoomJustReached() {
    for (int hosts = 2; hosts <= 3; hosts++) {
      for (int slack : new int[] {0, 1, 12, 13, 20, 33, 34, 49, 50, 60, 99, 100}) {
        for (int k = 1; k <= 8; k++) {
          LineDealer star = Nets.made(hosts, 0, slack, 5);
          LineDealer one = Nets.made(hosts, 0, slack, 5);
          for (int i = 1; i <= k; i++) {
            star.line(0, i);
            one.line(38, 39);
          }
          int room = (int) Math.ceil(k * (100 + slack) / (100.0 * hosts));
          int needed = (k + room - 1) / room;
          String name = k + " lines on " + hosts + " hosts, slack " + slack;
          Check.due("16: best() of a star, " + name, star.best(), k + needed);
          Check.due("16: best() of the same points, " + name, one.best(), 2 * needed);
        }
      }
    }
    LineDealer x = Nets.made(2, 0, 0, 5);
    Nets.deal(x, 0, 1, 0, 1, 0, 1, 2, 3);
    // Room is 2 for each: the three can't be together.
    Check.due("16: three and one, room 2", x.best(), 6);
    x.weights(1, 0);
    Check.due("16: three and one, room 3", x.best(), 4);
    LineDealer pairs = Nets.made(2, 0, 0, 5);
    Nets.deal(pairs, 0, 1, 0, 1, 2, 3, 2, 3, 4, 5, 4, 5);
    Check.due("16: three pairs on two hosts, room 3", pairs.best(), 8);
    pairs.more();
    Check.due("16: three pairs on three hosts, room 2", pairs.best(), 6);
  }

  private static void bestOfFewLeftOfMany() {
    LineDealer x = Nets.made(2, 0, 100, 5);
    for (int i = 0; i < 300; i++) x.line(0, 1 + i % 39);
    Check.due("16: best() of 300", x.best(), NONE);
    x.window(9);
    Check.due("16: best() of 9 of 300", x.best(), NONE);
    x.window(8);
    Check.due("16: best() of 8 of 300", x.best(), 9);
    x.window(1);
    Check.due("16: best() of 1 of 300", x.best(), 2);
    x.leave(299);
    Check.due("16: best() of none of 300", x.best(), NONE);
    LineDealer y = Nets.made(3, 0, 100, 5);
    Nets.deal(y, 0, 1, 2, 3);
    Check.due("16: best() on three hosts", y.best(), 4);
    y.more();
    Check.due("16: best() on four hosts", y.best(), NONE);
    y.less(3);
    Check.due("16: best() on three hosts again", y.best(), 4);
    Check.due("16: best() asked twice", y.best(), 4);
  }

  /** Promise 17: "NONE if there is none such." */
  private static void partOfNoSuchPoint() {
    LineDealer empty = new LineDealer(2);
    LineDealer full = ring();
    for (int odd : Nets.outside(0, 39)) {
      Check.due("17: part(" + odd + "), empty", empty.part(odd), NONE);
      Check.due("17: part(" + odd + "), full", full.part(odd), NONE);
    }
  }

  private static void partsOfEmptyAndFullNets() {
    LineDealer empty = new LineDealer(8);
    LineDealer full = ring();
    for (int point = 0; point < 40; point++) {
      Check.due("17: part(" + point + ") alone", empty.part(point), point);
      Check.due("17: part(" + point + ") of one part", full.part(point), 0);
    }
    LineDealer x = new LineDealer(2);
    Nets.deal(x, 39, 38, 1, 2);
    Check.due("17: part(39)", x.part(39), 38);
    Check.due("17: part(38)", x.part(38), 38);
    Check.due("17: part(37)", x.part(37), 37);
    Check.due("17: part(0)", x.part(0), 0);
    Check.due("17: part(2)", x.part(2), 1);
    x.leave(0);
    Check.due("17: part(39), whose line left", x.part(39), 39);
  }

  /** Promise 18: "NONE for others." */
  private static void runOfOthers() {
    for (LineDealer x : new LineDealer[] {new LineDealer(2), ring(), Nets.even(8, 300)}) {
      for (int odd : Nets.outside(0, 2)) Check.due("18: run(" + odd + ")", x.run(odd), NONE);
      for (int what = 0; what <= 2; what++) Check.due("18: run(" + what + ") is there", x.run(what) != NONE, true);
    }
  }

  private static void runOfEmptyAndFullNets() {
    LineDealer empty = new LineDealer(8);
    Check.due("18: run(0) of no lines", empty.run(0), 1);
    Check.due("18: run(1) of no lines", empty.run(1), 0);
    Check.due("18: run(2) of no lines", empty.run(2), 0);
    LineDealer full = ring();
    // The number 0 goes both ways round the ring: point 20 has it in round 20, and round 21 changes nothing.
    Check.due("18: run(0) of a full net", full.run(0), 21);
    Check.due("18: run(1) of a full net", full.run(1), 21 * 40 * 2 * 6);
    Check.due("18: run(2) of a full net", full.run(2), 1);
    LineDealer pairs = Nets.made(8, 0, 20, 5);
    for (int i = 0; i < 300; i++) pairs.line(i % 20 * 2, i % 20 * 2 + 1);
    Check.due("18: run(0) of twenty pairs", pairs.run(0), 2);
    Check.due("18: run(2) of twenty pairs", pairs.run(2), 20);
    pairs.window(1);
    Check.due("18: run(0) of the last line", pairs.run(0), 2);
    Check.due("18: run(1) of the last line", pairs.run(1), 0);
    Check.due("18: run(2) of the last line", pairs.run(2), 1);
    pairs.leave(299);
    Check.due("18: run(0) when all left", pairs.run(0), 1);
    Check.due("18: run(2) when all left", pairs.run(2), 0);
  }

  /** Promise 19: "NONE if .. there is none such." */
  private static void masterOfNoSuchPoint() {
    LineDealer empty = new LineDealer(2);
    LineDealer full = ring();
    for (int odd : Nets.outside(0, 39)) {
      Check.due("19: master(" + odd + "), empty", empty.master(odd), NONE);
      Check.due("19: master(" + odd + "), full", full.master(odd), NONE);
    }
    // Each point of the ring has copies on all seven hosts: masters go round.
    for (int point = 0; point < 40; point++) Check.due("19: master(" + point + ") of a full net", full.master(point), point % 7);
  }

  /** Promise 19: "NONE if it has no COPY" */
  private static void masterOfNoCopy() {
    LineDealer empty = new LineDealer(8);
    for (int point = 0; point < 40; point++) Check.due("19: master(" + point + ") of no copy", empty.master(point), NONE);
    LineDealer x = Nets.even(2, 0);
    Nets.deal(x, 0, 39, 1, 38);
    int[][] due = {{0, 0}, {1, 1}, {2, NONE}, {37, NONE}, {38, 1}, {39, 0}};
    for (int[] d : due) Check.due("19: master(" + d[0] + ")", x.master(d[0]), d[1]);
    x.leave(0);
    Check.due("19: master(0), whose line left", x.master(0), NONE);
    Check.due("19: master(39), whose line left", x.master(39), NONE);
    Check.due("19: master(38)", x.master(38), 1);
    x.leave(1);
    Check.due("19: master(38) when all left", x.master(38), NONE);
  }

  /** Promise 20: "NONE for others." */
  private static void countOfOthers() {
    LineDealer empty = new LineDealer(2);
    LineDealer full = Nets.even(8, 300);
    for (int odd : Nets.outside(0, 10)) {
      Check.due("20: count(" + odd + "), empty", empty.count(odd), NONE);
      Check.due("20: count(" + odd + "), full", full.count(odd), NONE);
    }
  }

  private static void countsOfAnEmptyNet() {
    for (int hosts = 2; hosts <= 8; hosts++) {
      int[] due = {hosts, 0, 0, 0, 0, 0, 0, 2, 20, 5, 0};
      LineDealer x = new LineDealer(hosts);
      for (int what = 0; what <= 10; what++) Check.due("20: count(" + what + ") at first", x.count(what), due[what]);
    }
  }

  private static void greatestAndLeastLoad() {
    for (int most = 0; most < 3; most++) {
      LineDealer x = Nets.made(3, 1, 100, 5);
      Nets.deal(x, 0, most + 3, 0, most + 3);
      Check.due("20: count(4), of host " + most, x.count(4), 2);
      Check.due("20: count(5), of the others", x.count(5), 0);
      LineDealer y = Nets.even(3, 6);
      y.leave(most);
      Check.due("20: count(4), of the others", y.count(4), 2);
      Check.due("20: count(5), of host " + most, y.count(5), 1);
    }
  }

  private static void countsOfAFullNet() {
    int[] due = {8, 300, 300, 0, 38, 37, 40, 0, 20, 5, 0};
    LineDealer x = Nets.even(8, 300);
    for (int what = 0; what <= 10; what++) Check.due("20: count(" + what + ") of a full net", x.count(what), due[what]);
    x.window(1);
    x.weights(100, 0);
    x.rule(1);
    int[] then = {8, 300, 1, 0, 1, 0, 2, 1, 100, 0, 1};
    for (int what = 0; what <= 10; what++) Check.due("20: count(" + what + ") of the last line", x.count(what), then[what]);
    x.leave(299);
    int[] left = {8, 300, 0, 0, 0, 0, 0, 1, 100, 0, 1};
    for (int what = 0; what <= 10; what++) Check.due("20: count(" + what + ") when all left", x.count(what), left[what]);
    LineDealer moved = Nets.made(2, 0, 100, 5);
    Nets.deal(moved, 0, 1, 0, 1);
    Check.due("20: better(50)", moved.better(50), 1);
    Check.due("20: count(3)", moved.count(3), 1);
    Check.due("20: better(50)", moved.better(50), 0);
    Check.due("20: count(3) stays", moved.count(3), 1);
    Check.due("20: count(4), both there", moved.count(4), 2);
    Check.due("20: count(5), none there", moved.count(5), 0);
  }
}
