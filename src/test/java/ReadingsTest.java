/** The sentences that could be read in two ways: each case here has another answer by the other reading. */
public final class ReadingsTest {
  private static final int NONE = Nets.NONE;

  public static void main(String[] args) {
    loadsWhileTheOldestIsLive();
    roomWhileTheOldestIsLive();
    degreesWhileTheOldestIsLive();
    copiesWhileTheOldestIsLive();
    hostThatGoesByRule1();
    hostThatGoesByRule1WithoutRoom();
    anyHostThatGoesByRule1();
    thoseToComeYetAreNotLive();
    dealingAnewIsNoMove();
    Check.end("ReadingsTest");
  }

  /** "when one more has been dealt, the one of the least number leaves": by RULE 0. */
  private static void loadsWhileTheOldestIsLive() {
    LineDealer x = Nets.made(3, 0, 100, 5);
    x.window(2);
    // Hosts 0 and 1 are taken when the third comes, 1 and 2 when the fourth comes.
    Check.due("loads with the oldest", Nets.deal(x, 0, 1, 0, 1, 0, 1, 0, 1, 0, 1), "01201");
    Check.due("then it leaves", Nets.hosts(x), "---01");
  }

  /** ROOM is that for one more than the window, by RULE 1. */
  private static void roomWhileTheOldestIsLive() {
    LineDealer one = Nets.made(2, 1, 0, 5);
    one.window(1);
    // ROOM for two lines is 1, and the oldest has host 0 or is not in the way.
    Check.due("room, a window of 1", Nets.deal(one, 0, 2, 0, 2, 0, 2, 0, 2), "0101");
    LineDealer two = Nets.made(2, 1, 0, 5);
    two.window(2);
    // The third line: loads are 1 and 1, ROOM for three is 2 (for two it would be 1).
    Check.due("room, a window of 2", Nets.deal(two, 0, 1, 0, 2, 0, 2), "100");
    Check.due("then the oldest leaves", Nets.hosts(two), "-00");
    Check.due("room() is that for two", two.room(), 1);
  }

  private static void degreesWhileTheOldestIsLive() {
    LineDealer x = Nets.made(2, 1, 100, 0);
    x.window(3);
    Check.due("dealt by rule 1", Nets.deal(x, 0, 2, 0, 4, 1, 6), "001");
    x.rule(2);
    // Degrees 3 and 2, d is 5: 70 on host 0, 80 on host 1. Without line 0 it would be 60 on both.
    Check.due("degrees with the oldest", x.line(0, 1), 1);
    Check.due("then it leaves", Nets.hosts(x), "-011");
    Check.due("degree(0)", x.degree(0), 2);
  }

  private static void copiesWhileTheOldestIsLive() {
    LineDealer x = Nets.made(2, 1, 100, 0);
    x.window(2);
    Check.due("dealt by rule 1", Nets.deal(x, 0, 1, 2, 4), "10");
    x.rule(2);
    // Point 0 lies on host 1 by the oldest alone; without its copy all score 0, and host 0 has the least number.
    Check.due("copies with the oldest", x.line(0, 9), 1);
    Check.due("then it leaves", Nets.hosts(x), "-01");
    Check.due("copies(0)", x.copies(0), 2);
    Check.due("copies(1)", x.copies(1), 0);
  }

  /** "HOSTS are 0 .. n - 1": when one went, RULE 1 reckons with those that there are then, by their new numbers. */
  private static void hostThatGoesByRule1() {
    LineDealer x = Nets.made(4, 1, 100, 5);
    Check.due("dealt", Nets.deal(x, 0, 1, 0, 2, 0, 5, 0, 3, 0, 9), "12131");
    Check.due("less(1)", x.less(1), 3);
    // Line 1 is on 1 and line 3 on 2 then. The rests of 1, 5 and 9 by 3 are 1, 2 and 0.
    Check.due("hosts", Nets.hosts(x), "11220");
    Check.due("loads", Nets.loads(x), "1 2 2");
    LineDealer last = Nets.made(3, 1, 100, 5);
    Check.due("dealt", Nets.deal(last, 0, 2, 0, 3, 0, 5), "202");
    Check.due("less(2), the last", last.less(2), 2);
    // The rests of 2 and 5 by 2 are 0 and 1.
    Check.due("hosts", Nets.hosts(last), "001");
  }

  private static void hostThatGoesByRule1WithoutRoom() {
    LineDealer x = Nets.made(3, 0, 0, 5);
    Check.due("dealt", Nets.deal(x, 0, 1, 0, 1, 0, 1, 0, 1, 0, 1, 0, 1), "012012");
    x.rule(1);
    Check.due("less(0)", x.less(0), 2);
    // ROOM is 3: host 1 of two has two lines and takes line 0, then it has no room for line 3.
    Check.due("hosts", Nets.hosts(x), "101001");
  }

  private static void anyHostThatGoesByRule1() {
    for (int hosts = 3; hosts <= 8; hosts++) {
      for (int gone = 0; gone < hosts; gone++) {
        LineDealer x = Nets.made(hosts, 0, 100, 5);
        int lines = 5 * hosts;
        Nets.bring(x, lines);
        x.rule(1);
        String name = "less(" + gone + ") of " + hosts;
        Check.due(name, x.less(gone), 5);
        // Five on each, and ROOM for twice as many: each goes where RULE 1 wants it.
        for (int i = 0; i < lines; i++) {
          int old = i % hosts;
          int both = i * 7 % 40 + (i * 7 + 1 + i / 8) % 40;
          int due = old == gone ? both % (hosts - 1) : old > gone ? old - 1 : old;
          Check.due(name + ": line " + i, x.host(i), due);
        }
      }
    }
  }

  /** "as if each came then (the others LIVE but for those that are to come yet)" */
  private static void thoseToComeYetAreNotLive() {
    LineDealer x = Nets.made(3, 1, 100, 0);
    Check.due("dealt", Nets.deal(x, 0, 1, 3, 5, 0, 3, 0, 6), "1200");
    x.rule(2);
    Check.due("less(0)", x.less(0), 2);
    // Line 2: points 0 and 3 have degree 2 with it, so 60 on both hosts; with line 3 there 80 on host 1.
    Check.due("degrees without the next", Nets.hosts(x), "0100");
    LineDealer y = Nets.made(3, 1, 100, 5);
    Check.due("dealt", Nets.deal(y, 0, 1, 0, 6, 0, 12), "100");
    y.weights(0, 5);
    Check.due("less(0)", y.less(0), 2);
    // Both want host 0, where line 0 is: ROOM for line 1 is that for two, 1, and for line 2 that for three, 2.
    Check.due("room without the next", Nets.hosts(y), "010");
  }

  /** "3 MOVES ever": a MOVE is one of BETTER; a line that is dealt anew was not moved. */
  private static void dealingAnewIsNoMove() {
    LineDealer x = Nets.even(3, 9);
    Check.due("less(1)", x.less(1), 3);
    Check.due("count(3)", x.count(3), 0);
    Check.due("count(1)", x.count(1), 9);
    Check.due("host(9)", x.host(9), NONE);
  }
}
