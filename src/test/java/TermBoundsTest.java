/** The sentences of "Terms" that name a bound, or say which of like ones it is. */
public final class TermBoundsTest {
  private static final int NONE = Nets.NONE;

  public static void main(String[] args) {
    sameTwoPoints();
    oneMoreThanTheWindow();
    leastNumberLeavesTheWindow();
    dealtBeforeOneLeaves();
    windowsOfOneAndOfThreeHundred();
    aBegunOneAsAWholeOne();
    slackAtItsEnds();
    loadBelowTheRoom();
    likeHostsByEachRule();
    restOfBothPoints();
    leanAtItsEnds();
    degreesWithThisLine();
    moveOnlyBelowTheRoom();
    moveThatLessens();
    likeMoves();
    hostThatComes();
    hostThatGoes();
    tillNothingChanges();
    asTheyWereAheadOfTheRound();
    lettersOfTwoCopiesAtLeast();
    likeMasters();
    Check.end("TermBoundsTest");
  }

  /** "two POINTS, not one (two LINES may have the same ones)" */
  private static void sameTwoPoints() {
    LineDealer x = Nets.made(2, 0, 20, 5);
    Check.due("same points, either way round", Nets.deal(x, 0, 39, 0, 39, 39, 0), "010");
    Check.due("not one", x.line(39, 39), NONE);
    Check.due("degree(0)", x.degree(0), 3);
    Check.due("copies(39)", x.copies(39), 3);
    x.leave(0);
    Check.due("one left, the others stay", Nets.hosts(x), "-10");
    Check.due("copies(39) stay", x.copies(39), 3);
    x.leave(2);
    Check.due("copies(39) on host 1 alone", x.copies(39), 2);
  }

  /** "WINDOW: 0 (none), or how many LINES are LIVE at most: when one more has been dealt, .. leaves." */
  private static void oneMoreThanTheWindow() {
    for (int window : new int[] {1, 2, 5, 298, 299}) {
      LineDealer x = Nets.made(3, 0, 20, 5);
      x.window(window);
      Nets.bring(x, window);
      Check.due("as many as the window of " + window, x.count(2), window);
      Check.due("line 0 stays", x.host(0), 0);
      Check.due("one more comes", x.line(3, 4) != NONE, true);
      Check.due("as many as before", x.count(2), window);
      Check.due("line 0 leaves", x.host(0), NONE);
      Check.due("line 1 stays", x.host(1) != NONE, true);
      Check.due("the new one stays", x.host(window) != NONE, true);
    }
    LineDealer none = Nets.even(3, 300);
    Check.due("no window: all stay", none.count(2), 300);
  }

  /** "the one of the least number leaves" */
  private static void leastNumberLeavesTheWindow() {
    LineDealer x = Nets.even(2, 5);
    x.window(5);
    x.leave(0);
    x.leave(1);
    // Loads are 2 and 1 then.
    Nets.deal(x, 0, 1, 0, 1);
    Check.due("a window that others left is filled first", Nets.hosts(x), "--01010");
    x.line(0, 1);
    Check.due("then the least of those that are live", x.host(2), NONE);
    Check.due("and no other", x.count(2), 5);
    Check.due("the next stays", x.host(3), 1);
  }

  /** "when one more has been dealt": the oldest still counts while the new one is dealt. */
  private static void dealtBeforeOneLeaves() {
    LineDealer x = Nets.made(2, 0, 20, 5);
    x.window(1);
    // With line 0 on host 0 the next one goes to host 1, and with that one there the next to host 0.
    Check.due("a window of 1", Nets.deal(x, 0, 1, 0, 1, 0, 1, 0, 1), "0101");
    LineDealer y = Nets.made(2, 2, 100, 100);
    y.window(1);
    // The third line's points lie on host 1 by the line that is to leave: 10 (6 + 6) outweighs LEAN, 100.
    Check.due("its copies pull", Nets.deal(y, 2, 4, 0, 1, 0, 1), "011");
  }

  private static void windowsOfOneAndOfThreeHundred() {
    LineDealer x = Nets.made(8, 0, 20, 5);
    x.window(300);
    for (int i = 0; i < 300; i++) Check.due("line " + i + " in a window of 300", x.line(1, 2), i % 8);
    Check.due("300 are live", x.count(2), 300);
    Check.due("the 301st", x.line(1, 2), NONE);
    Check.due("none leaves for it", x.host(0), 0);
    LineDealer y = Nets.made(8, 0, 20, 5);
    y.window(1);
    for (int i = 0; i < 300; i++) {
      y.line(i % 40, (i + 1) % 40);
      if (i % 50 == 49) Check.due("one is live", y.count(2), 1);
    }
    Check.due("line 299 is", y.host(299) != NONE, true);
    Check.due("two copies", y.all(), 2);
  }

  /** "ROOM for n LINES by h HOSTS is n times (100 and SLACK) by 100 h, a begun one as a whole one." */
  private static void aBegunOneAsAWholeOne() {
    int[][] due = {
      // slack, hosts, lines, room
      {0, 2, 1, 1}, {0, 2, 2, 1}, {0, 2, 3, 2}, {0, 8, 8, 1}, {0, 8, 9, 2}, {0, 8, 16, 2}, {0, 8, 17, 3},
      {20, 2, 5, 3}, {20, 2, 6, 4}, {20, 3, 5, 2}, {20, 3, 6, 3}, {20, 6, 5, 1}, {20, 6, 6, 2}, {20, 6, 300, 60},
      {50, 3, 2, 1}, {50, 3, 3, 2}, {50, 3, 4, 2}, {50, 3, 5, 3}, {25, 5, 4, 1}, {25, 5, 5, 2}, {25, 5, 300, 75},
      {1, 2, 2, 2}, {1, 2, 101, 52}, {1, 2, 200, 101}, {1, 2, 201, 102}, {99, 2, 200, 199}, {99, 2, 1, 1}, {99, 2, 2, 2},
      {100, 2, 1, 1}, {100, 2, 300, 300}, {100, 8, 4, 1}, {100, 8, 5, 2}, {100, 7, 7, 2}, {100, 7, 8, 3},
      {0, 7, 300, 43}, {40, 7, 5, 1}, {40, 7, 6, 2}, {40, 7, 300, 60}};
    for (int[] d : due) {
      LineDealer x = Nets.made(d[1], 0, d[0], 5);
      Nets.bring(x, d[2]);
      Check.due("room: slack " + d[0] + ", " + d[1] + " hosts, " + d[2] + " lines", x.room(), d[3]);
    }
    for (int hosts = 2; hosts <= 8; hosts++) {
      for (int slack = 0; slack <= 100; slack++) roomAsItGrows(hosts, slack);
    }
  }

  private static void roomAsItGrows(int hosts, int slack) {
    LineDealer x = Nets.made(hosts, 0, slack, 5);
    for (int n = 1; n <= 250; n++) {
      x.line(0, 1);
      int room = x.room();
      boolean enough = room * 100 * hosts >= n * (100 + slack);
      boolean tooMuch = (room - 1) * 100 * hosts >= n * (100 + slack);
      Check.due("room is enough for " + n + " by " + hosts + ", slack " + slack, enough && !tooMuch, true);
    }
  }

  /** "SLACK is 0 .. 100 (20 at first)" */
  private static void slackAtItsEnds() {
    // All lines are of the same two points: they go where room is.
    int[] same = {0, 1, 0, 1, 0, 1, 0, 1, 0, 1, 0, 1};
    Check.due("slack 0", Nets.deal(Nets.made(2, 2, 0, 0), same), "010101");
    Check.due("slack 100", Nets.deal(Nets.made(2, 2, 100, 0), same), "000000");
    LineDealer atFirst = new LineDealer(2);
    Check.due("slack at first is 20", atFirst.count(8), 20);
    Check.due("slack at first", Nets.deal(atFirst, same), Nets.deal(Nets.made(2, 2, 20, 5), same));
    // ROOM is 1, 2, 2, 3, 4, 4: host 0 has none for the third and the sixth.
    Check.due("slack 100, three hosts", Nets.deal(Nets.made(3, 2, 100, 0), same), "001001");
  }

  /** "of HOSTS whose LOAD is below the ROOM for n + 1 LINES" */
  private static void loadBelowTheRoom() {
    // ROOM for 1 .. 8 lines by 3 hosts, slack 50: 1, 1, 2, 2, 3, 3, 4, 4.
    Check.due("room, slack 50", Nets.deal(Nets.made(3, 2, 50, 0), 0, 1, 0, 1, 0, 1, 0, 1, 0, 1, 0, 1, 0, 1, 0, 1), "01010101");
    // By RULE 1 all ask for host 1 of 3; ROOM with slack 20 for 1 .. 7: 1, 1, 2, 2, 2, 3, 3.
    Check.due("room by rule 1", Nets.deal(Nets.made(3, 1, 20, 5), 0, 1, 0, 1, 0, 1, 0, 1, 0, 1, 0, 1, 0, 1), "1010210");
    LineDealer x = Nets.made(2, 1, 100, 5);
    Nets.deal(x, 0, 2, 0, 2, 0, 2);
    // Loads are 3 and 0; for a fourth line there is room for 2, and with slack 50 for 3, with slack 51 for 4.
    x.weights(0, 5);
    Check.due("above the room", x.line(0, 2), 1);
    x.leave(3);
    x.weights(50, 5);
    Check.due("at the room", x.line(0, 2), 1);
    x.leave(4);
    x.weights(51, 5);
    Check.due("below the room", x.line(0, 2), 0);
  }

  /** "that with the greatest SCORE, of like ones the least number" */
  private static void likeHostsByEachRule() {
    for (int hosts = 2; hosts <= 8; hosts++) {
      for (int rule : new int[] {0, 2}) {
        LineDealer x = Nets.made(hosts, rule, 20, 5);
        // Points that lie nowhere yet: the least load alone tells.
        for (int i = 0; i < 20; i++) Check.due("rule " + rule + ", line " + i, x.line(2 * i, 2 * i + 1), i % hosts);
      }
      LineDealer y = Nets.made(hosts, 2, 100, 0);
      y.line(38, 39);
      // ROOM for two lines is 2 by two or three hosts, 1 by more.
      Check.due("rule 2, all score 0", y.line(0, 1), hosts <= 3 ? 0 : 1);
      LineDealer z = Nets.made(hosts, 1, 0, 5);
      z.line(0, hosts - 1);
      Check.due("rule 1, the last one has no room", z.line(0, hosts - 1), 0);
    }
    LineDealer x = Nets.made(4, 1, 100, 5);
    Nets.deal(x, 0, 1, 0, 2, 0, 3);
    x.rule(2);
    x.weights(100, 0);
    // Point 0 lies on hosts 1, 2 and 3.
    Check.due("rule 2, the least of those with a copy", x.line(0, 9), 1);
  }

  /** "the rest of u and v, together, by how many HOSTS there are" */
  private static void restOfBothPoints() {
    for (int hosts = 2; hosts <= 8; hosts++) {
      for (int u = 0; u < 40; u++) {
        for (int v = 0; v < 40; v += 3) {
          if (u != v) Check.due("rule 1: line(" + u + ", " + v + ")", Nets.made(hosts, 1, 20, 5).line(u, v), (u + v) % hosts);
        }
      }
    }
    LineDealer x = Nets.made(2, 1, 100, 5);
    Check.due("of two hosts", x.line(39, 36), 1);
    x.more();
    Check.due("of three hosts", x.line(39, 36), 0);
    x.more();
    x.leave(0);
    x.leave(1);
    Check.due("of four hosts", x.line(39, 36), 3);
  }

  /** "LEAN (0 .. 100; 5 at first) times (the greatest LOAD of all HOSTS less its LOAD)" */
  private static void leanAtItsEnds() {
    // Point 0 has degree 6 then, the new one 1: (14 - 6) times 10 is 80 on host 0, 5 LEAN on host 1.
    for (int[] d : new int[][] {{0, 0}, {15, 0}, {16, 0}, {17, 1}, {100, 1}}) {
      LineDealer x = Nets.made(2, 1, 100, d[0]);
      Nets.deal(x, 0, 2, 0, 4, 0, 6, 0, 8, 0, 10);
      x.rule(2);
      Check.due("lean " + d[0], x.line(0, 39), d[1]);
    }
    LineDealer atFirst = new LineDealer(2);
    Check.due("lean at first is 5", atFirst.count(9), 5);
    atFirst.rule(1);
    atFirst.weights(100, 5);
    Nets.deal(atFirst, 0, 2, 0, 4, 0, 6, 0, 8, 0, 10);
    atFirst.rule(2);
    Check.due("lean 5", atFirst.line(0, 39), 0);
  }

  /** "DEGREES being counted with this LINE, d their sum: (2 d less the DEGREE of u) if u has a COPY there" */
  private static void degreesWithThisLine() {
    // u has a copy on host 0 and degree 2 with this line, v none and 1: 10 (6 - 2) is 40.
    LineDealer x = Nets.made(2, 1, 100, 40);
    x.line(0, 2);
    x.rule(2);
    Check.due("lean 40 is like 40: the least number", x.line(0, 9), 0);
    LineDealer y = Nets.made(2, 1, 100, 41);
    y.line(0, 2);
    y.rule(2);
    Check.due("lean 41 is more", y.line(0, 9), 1);
    LineDealer z = Nets.made(2, 1, 100, 41);
    z.line(0, 2);
    z.rule(2);
    Check.due("likewise of v", z.line(9, 0), 1);
    LineDealer w = Nets.made(2, 1, 100, 100);
    w.line(0, 2);
    w.rule(2);
    // Both: degrees 2 and 2, 10 (6 + 6) is 120.
    Check.due("both together", w.line(0, 2), 0);
  }

  /** "A MOVE brings a LIVE LINE to another HOST whose LOAD is below the ROOM for all LIVE LINES then." */
  private static void moveOnlyBelowTheRoom() {
    LineDealer x = Nets.made(2, 0, 100, 5);
    Nets.deal(x, 0, 1, 0, 1, 2, 3, 4, 5);
    // Loads are 2 and 2. ROOM with slack 0 is 2: no host is below it; with slack 1 it is 3.
    x.weights(0, 5);
    Check.due("all at the room", x.better(50), 0);
    x.weights(1, 5);
    Check.due("below the room", x.better(1), 1);
    Check.due("line 0 goes", Nets.hosts(x), "1101");
    LineDealer y = Nets.made(3, 0, 50, 5);
    Nets.deal(y, 0, 1, 0, 5, 6, 7, 0, 2);
    Check.due("dealt", Nets.hosts(y), "0120");
    // Line 1 would save a copy of point 0 on host 0, which has two lines: ROOM is 2, with slack 51 it is 3.
    Check.due("one at the room", y.better(50), 0);
    y.weights(51, 5);
    Check.due("below the room", y.better(50), 1);
    Check.due("line 1 goes", Nets.hosts(y), "0020");
  }

  /** "It LESSENS, if there are fewer COPIES .. then, or as many, and the sum of the squares of LOADS is less." */
  private static void moveThatLessens() {
    LineDealer like = Nets.made(2, 1, 100, 5);
    Nets.deal(like, 0, 2, 4, 6, 7, 8);
    Check.due("dealt", Nets.hosts(like), "001");
    // Loads 2 and 1 would be 1 and 2.
    Check.due("as many and as great does not lessen", like.better(50), 0);
    LineDealer less = Nets.made(2, 1, 100, 5);
    Nets.deal(less, 0, 2, 4, 6);
    Check.due("loads", Nets.loads(less), "2 0");
    Check.due("as many, the squares less", less.better(50), 1);
    Check.due("loads", Nets.loads(less), "1 1");
    LineDealer more = Nets.made(2, 1, 100, 5);
    Nets.deal(more, 0, 2, 0, 2, 0, 2, 0, 2);
    Check.due("more copies, the squares less: does not", more.better(50), 0);
    LineDealer fewer = Nets.made(2, 1, 100, 5);
    Nets.deal(fewer, 0, 2, 0, 2, 0, 1);
    Check.due("dealt", Nets.hosts(fewer), "001");
    Check.due("fewer copies, the squares more: does", fewer.better(50), 1);
    Check.due("all together", Nets.hosts(fewer), "000");
    oneCopyFewer(Nets.made(2, 1, 100, 5), 0, 2, 0, 4, 0, 3, 2, 3);
    oneCopyFewer(Nets.made(2, 1, 100, 5), 2, 0, 4, 0, 3, 0, 3, 2);
  }

  private static void oneCopyFewer(LineDealer x, int... ends) {
    Check.due("dealt", Nets.deal(x, ends), "0011");
    Check.due("copies", x.all(), 6);
    // Line 0 frees host 0 of point 2, not of point 0, which line 1 holds there; host 1 has both.
    Check.due("one copy fewer", x.better(1), 1);
    Check.due("line 0 goes", Nets.hosts(x), "1011");
    Check.due("copies", x.all(), 5);
    // Line 1 frees host 0 of both its points; host 1 has point 0.
    Check.due("one copy fewer again", x.better(1), 1);
    Check.due("line 1 goes", Nets.hosts(x), "1111");
    Check.due("copies", x.all(), 4);
    Check.due("none lessens", x.better(1), 0);
  }

  /** "of like ones that of the least LINE, of these to the least HOST" */
  private static void likeMoves() {
    LineDealer x = onOneHost(0, 3, 4, 7);
    Check.due("dealt", Nets.hosts(x), "11");
    Check.due("better(1)", x.better(1), 1);
    Check.due("line 0 to host 0", Nets.hosts(x), "01");
    LineDealer y = onOneHost(0, 4, 8, 12);
    Check.due("dealt", Nets.hosts(y), "00");
    Check.due("better(1)", y.better(1), 1);
    Check.due("line 0 to host 1", Nets.hosts(y), "10");
    LineDealer z = onOneHost(1, 3, 0, 4, 8, 12);
    z.leave(0);
    Check.due("better(1)", z.better(1), 1);
    Check.due("line 1, the least that is live, to host 1", Nets.hosts(z), "-10");
    LineDealer w = Nets.made(3, 0, 100, 5);
    Nets.deal(w, 0, 1, 0, 1, 0, 1);
    // Each of the three saves two copies on each other host.
    Check.due("better(1)", w.better(1), 1);
    Check.due("line 0 to host 1", Nets.hosts(w), "112");
    Check.due("host 1 has no room for line 2", w.better(1), 0);
  }

  /** Lines of which RULE 1 brings all to the same one of two hosts; then two hosts come. */
  private static LineDealer onOneHost(int... ends) {
    LineDealer x = Nets.made(2, 1, 100, 5);
    Nets.deal(x, ends);
    x.more();
    x.more();
    return x;
  }

  /** "A HOST more comes with the greatest number." */
  private static void hostThatComes() {
    LineDealer x = Nets.even(2, 4);
    Check.due("more()", x.more(), 3);
    Check.due("lines stay", Nets.hosts(x), "0101");
    Check.due("loads", Nets.loads(x), "2 2 0");
    Check.due("the next two", Nets.deal(x, 0, 1, 0, 1), "22");
    Check.due("the next", x.line(0, 1), 0);
  }

  /** "its LIVE LINES are DEALT anew, by numbers, as if each came then ..; HOSTS behind it have one number less." */
  private static void hostThatGoes() {
    for (int gone = 0; gone < 4; gone++) {
      LineDealer x = Nets.even(4, 8);
      Check.due("less(" + gone + ")", x.less(gone), 2);
      // Loads are 2, 2, 2: its two lines go to hosts 0 and 1.
      StringBuilder due = new StringBuilder();
      for (int line = 0; line < 8; line++) {
        int old = line % 4;
        due.append(old == gone ? line / 4 : old > gone ? old - 1 : old);
      }
      Check.due("hosts without " + gone, Nets.hosts(x), due.toString());
      Check.due("loads without " + gone, Nets.loads(x), "3 3 2");
      Check.due("as many are live", x.count(2), 8);
    }
    LineDealer y = Nets.even(3, 6);
    y.leave(0);
    y.leave(3);
    Check.due("a host whose lines left", y.less(0), 0);
    Check.due("the others have one number less", Nets.hosts(y), "-01-01");
    Check.due("those that left stay away", y.count(2), 4);
  }

  /** "till nothing changes (that ROUND counts, too)" */
  private static void tillNothingChanges() {
    Check.due("no line: one round", new LineDealer(2).run(0), 1);
    for (int length = 1; length <= 39; length++) {
      LineDealer x = new LineDealer(8);
      for (int p = 0; p < length; p++) x.line(p, p + 1);
      Check.due("a path of " + length, x.run(0), length + 1);
      Check.due("its end", x.part(length), 0);
      if (length < 39) Check.due("beyond it", x.part(length + 1), length + 1);
    }
    LineDealer star = new LineDealer(3);
    for (int p = 1; p < 40; p++) star.line(0, p);
    Check.due("a star", star.run(0), 2);
    LineDealer far = new LineDealer(3);
    for (int p = 0; p < 39; p++) far.line(39, p);
    Check.due("a star whose middle is 39", far.run(0), 3);
    Check.due("39 is known to all", far.part(38), 0);
  }

  /** "as they were ahead of the ROUND": the order in which lines came is all one. */
  private static void asTheyWereAheadOfTheRound() {
    LineDealer up = new LineDealer(2);
    LineDealer down = new LineDealer(2);
    for (int p = 0; p < 20; p++) {
      up.line(p, p + 1);
      down.line(20 - p, 19 - p);
    }
    Check.due("as lines came upwards", up.run(0), 21);
    Check.due("as lines came downwards", down.run(0), 21);
    LineDealer x = new LineDealer(2);
    // 5 reaches 9 by 7 in two rounds.
    Nets.deal(x, 7, 9, 5, 7);
    Check.due("two rounds and one", x.run(0), 3);
    Check.due("part(9)", x.part(9), 5);
  }

  /** "In each ROUND a POINT with c COPIES, two at least, costs two LETTERS for each COPY but one." */
  private static void lettersOfTwoCopiesAtLeast() {
    for (int c = 1; c <= 8; c++) {
      LineDealer x = Nets.made(8, 1, 100, 5);
      for (int i = 0; i < c; i++) x.line(0, 8 + i);
      // Two rounds, and point 0 alone has more copies than one.
      Check.due("letters of " + c + " copies", x.run(1), 2 * 2 * (c - 1));
    }
    LineDealer same = Nets.made(2, 0, 20, 5);
    Nets.deal(same, 0, 1, 0, 1);
    Check.due("two points with two copies each", same.run(1), 2 * 2 * 2);
    same.leave(0);
    Check.due("one copy each", same.run(1), 0);
    same.leave(1);
    Check.due("no copy", same.run(1), 0);
  }

  /** "that which is MASTER of the fewest till then, of like ones the least number" */
  private static void likeMasters() {
    LineDealer x = Nets.made(8, 1, 100, 5);
    for (int i = 0; i < 8; i++) x.line(39, i + 1);
    // Point p lies on host (39 + p) % 8 alone, point 39 on all: each is master of one, and host 0 has the least number.
    for (int p = 1; p <= 8; p++) Check.due("master(" + p + ")", x.master(p), (39 + p) % 8);
    Check.due("master(39), all alike", x.master(39), 0);
    x.leave(2);
    // Without point 3 and host 2, host 0 and the others are alike still.
    Check.due("master(39) again", x.master(39), 0);
    LineDealer y = Nets.made(3, 1, 100, 5);
    Nets.deal(y, 0, 3, 1, 3, 39, 3, 39, 38);
    // Host 0: points 0, 3, 39; host 1: points 1, 3; host 2: points 38, 39.
    Check.due("dealt", Nets.hosts(y), "0102");
    int[][] due = {{0, 0}, {1, 1}, {3, 0}, {38, 2}, {39, 2}};
    for (int[] d : due) Check.due("master(" + d[0] + ")", y.master(d[0]), d[1]);
    y.leave(0);
    // Point 0 has none: point 3 takes host 0, which has none so far.
    int[][] then = {{0, NONE}, {1, 1}, {3, 0}, {38, 2}, {39, 0}};
    for (int[] d : then) Check.due("then master(" + d[0] + ")", y.master(d[0]), d[1]);
  }
}
