/** For each promise of the document: ordinary inputs, the edges that it names, and wrong inputs. */
public final class PromisesTest {
  private static final int LOW = Nets.LOW;
  private static final int HIGH = Nets.HIGH;

  public static void main(String[] args) {
    promise1();
    promise2Inputs();
    promise2Room();
    promise2Rule0();
    promise2Rule1();
    promise2Rule2();
    promise3();
    promise4();
    promise5();
    promise6();
    promise7();
    promise7Order();
    promise7Room();
    promise8();
    promise9();
    promise9Rules();
    promise10to14();
    promise15();
    promise16();
    promise17and18();
    promise19();
    promise20();
    Check.end("PromisesTest");
  }

  private static void promise1() {
    int[][] cases = {{LOW, 2}, {0, 2}, {1, 2}, {2, 2}, {3, 3}, {7, 7}, {8, 8}, {9, 8}, {HIGH, 8}};
    for (int[] c : cases) Check.due("1: hosts of LineDealer(" + c[0] + ")", new LineDealer(c[0]).count(0), c[1]);
    int[] atFirst = {5, 0, 0, 0, 0, 0, 0, 2, 20, 5, 0};
    for (int what = 0; what < atFirst.length; what++) {
      Check.due("1: count(" + what + ") at first", new LineDealer(5).count(what), atFirst[what]);
    }
    Check.due("1: NONE", LineDealer.NONE, -1);
  }

  private static void promise2Inputs() {
    LineDealer x = new LineDealer(4);
    int[][] refused = {{-1, 3}, {3, -1}, {40, 3}, {3, 40}, {7, 7}, {LOW, HIGH}, {HIGH, LOW}, {HIGH, 1}, {-1, -1}, {40, 40}};
    for (int[] c : refused) Check.due("2: line(" + c[0] + ", " + c[1] + ")", x.line(c[0], c[1]), -1);
    Check.due("2: refused lines have not come", x.count(1), 0);
    Check.due("2: line(0, 39)", x.line(0, 39), 0);
    Check.due("2: line(39, 0), the same points", x.line(39, 0) >= 0, true);
    Check.due("2: two lines came", x.count(1), 2);
    for (int line = 2; line < 300; line++) Check.due("2: line " + line + " comes", x.line(line % 40, (line + 1) % 40) >= 0, true);
    Check.due("2: 300 came", x.line(1, 2), -1);
    Check.due("2: leave(5)", x.leave(5), true);
    Check.due("2: 300 came, though one left", x.line(1, 2), -1);
    Check.due("2: count(1)", x.count(1), 300);
    Check.due("2: count(2)", x.count(2), 299);
  }

  private static void promise2Room() {
    // ROOM for 1, 2, 3, 4, 5 lines by 2 hosts, slack 20: 1, 2, 2, 3, 3; point 0 pulls to host 0.
    Check.due("2: lines of one point, lean 0", Nets.deal(Nets.made(2, 2, 20, 0), 0, 1, 0, 2, 0, 3, 0, 4, 0, 5), "00101");
    // With slack 0: 1, 1, 2, 2, 3.
    Check.due("2: lines of one point, slack 0", Nets.deal(Nets.made(2, 2, 0, 0), 0, 1, 0, 2, 0, 3, 0, 4, 0, 5), "01010");
    // With slack 100 by 2 hosts every host has room always.
    Check.due("2: lines of one point, slack 100", Nets.deal(Nets.made(2, 2, 100, 0), 0, 1, 0, 2, 0, 3, 0, 4, 0, 5), "00000");
    LineDealer x = Nets.made(2, 0, 20, 5);
    x.window(2);
    Nets.deal(x, 0, 1, 2, 3);
    x.leave(0);
    Check.due("2: line(4, 5)", x.line(4, 5), 0);
    // Line 1 on host 1 is still live when this one is dealt: loads are like, and the least host has it.
    Check.due("2: dealt ahead of the window", x.line(6, 7), 0);
    Check.due("2: then the least line leaves", Nets.hosts(x), "--00");
  }

  private static void promise2Rule0() {
    LineDealer x = Nets.made(3, 0, 20, 5);
    Check.due("2: rule 0", Nets.deal(x, 0, 1, 0, 1, 0, 1, 0, 1, 0, 1), "01201");
    x.leave(1);
    x.leave(4);
    // Loads are 2, 0, 1.
    Check.due("2: rule 0, the least load first", Nets.deal(x, 0, 1, 0, 1, 0, 1, 0, 1), "1120");
  }

  private static void promise2Rule1() {
    Check.due("2: rule 1", Nets.deal(Nets.made(2, 1, 100, 5), 0, 1, 0, 2, 5, 6, 39, 38, 38, 36), "10110");
    Check.due("2: rule 1 by 7 hosts", Nets.deal(Nets.made(7, 1, 100, 5), 39, 38), "0");
    LineDealer x = Nets.made(3, 1, 0, 5);
    // ROOM for 1, 2, 3 lines by 3 hosts is 1: what host 2 has no room for goes to the least host that has.
    Check.due("2: rule 1, no room", Nets.deal(x, 0, 2, 0, 2, 0, 2, 0, 2), "2012");
    x.more();
    Check.due("2: rule 1, one host more", x.line(1, 2), 3);
  }

  private static void promise2Rule2() {
    // The third line (0, 1): degrees 3 and 3, d is 6, so 10 (9 + 9) = 180 on host 0, twice LEAN on host 1.
    Check.due("2: rule 2, lean 89", Nets.deal(Nets.made(2, 2, 100, 89), 0, 1, 0, 1, 0, 1), "000");
    Check.due("2: rule 2, lean 90", Nets.deal(Nets.made(2, 2, 100, 90), 0, 1, 0, 1, 0, 1), "000");
    Check.due("2: rule 2, lean 91", Nets.deal(Nets.made(2, 2, 100, 91), 0, 1, 0, 1, 0, 1), "001");
    LineDealer x = Nets.made(2, 2, 100, 5);
    // (2, 3) goes where the load is less; (0, 2) has 60 on both; (0, 3) has 70 for 0 on host 0,
    // and 80 for 3, whose degree is less, on host 1.
    Check.due("2: rule 2, the lower degree", Nets.deal(x, 0, 1, 2, 3, 0, 2, 0, 3), "0101");
    LineDealer y = Nets.made(2, 1, 100, 0);
    Nets.deal(y, 0, 1, 2, 4, 0, 3);
    y.rule(2);
    // Point 0 has degree 3 on host 1, point 2 degree 2 on host 0: 80 for 2, 70 for 0.
    Check.due("2: rule 2, lean 0", y.line(0, 2), 0);
    LineDealer w = Nets.made(2, 1, 100, 0);
    Nets.deal(w, 5, 6, 5, 7);
    w.rule(2);
    // Point 5 is on both hosts, point 6 on host 1 alone: 70 on host 0, 70 and 80 on host 1.
    Check.due("2: rule 2, both points there", w.line(5, 6), 1);
    LineDealer z = Nets.made(2, 1, 100, 0);
    Nets.deal(z, 0, 1, 2, 3);
    z.leave(0);
    z.rule(2);
    Check.due("2: rule 2, a copy that went does not pull", z.line(0, 1), 0);
  }

  private static void promise3() {
    LineDealer x = new LineDealer(3);
    Check.due("3: at first", x.count(7), 2);
    for (int rule = 0; rule <= 2; rule++) {
      Check.due("3: rule(" + rule + ")", x.rule(rule), true);
      Check.due("3: then it is", x.count(7), rule);
    }
    x.rule(1);
    for (int rule : new int[] {-1, 3, LOW, HIGH}) {
      Check.due("3: rule(" + rule + ")", x.rule(rule), false);
      Check.due("3: still", x.count(7), 1);
    }
    Check.due("3: and it deals so", x.line(1, 4), 2);
  }

  private static void promise4() {
    LineDealer x = new LineDealer(3);
    Check.due("4: slack at first", x.count(8), 20);
    Check.due("4: lean at first", x.count(9), 5);
    Check.due("4: weights(0, 100)", x.weights(0, 100), true);
    Check.due("4: slack", x.count(8), 0);
    Check.due("4: lean", x.count(9), 100);
    Check.due("4: weights(100, 0)", x.weights(100, 0), true);
    Check.due("4: weights(7, 11)", x.weights(7, 11), true);
    int[][] refused = {{-1, 5}, {5, -1}, {101, 5}, {5, 101}, {LOW, HIGH}, {HIGH, 0}, {0, LOW}};
    for (int[] c : refused) Check.due("4: weights(" + c[0] + ", " + c[1] + ")", x.weights(c[0], c[1]), false);
    Check.due("4: slack stays", x.count(8), 7);
    Check.due("4: lean stays", x.count(9), 11);
  }

  private static void promise5() {
    LineDealer x = Nets.made(2, 0, 20, 5);
    Nets.deal(x, 0, 1, 0, 2, 0, 3, 0, 4, 0, 5);
    x.leave(1);
    Check.due("5: window(3)", x.window(3), true);
    Check.due("5: those too many leave, least first", Nets.hosts(x), "--010");
    Check.due("5: window is", x.count(10), 3);
    x.line(7, 8);
    Check.due("5: one more, one leaves", Nets.hosts(x), "---101");
    x.leave(4);
    x.line(7, 8);
    Check.due("5: none leaves while there are few", x.count(2), 3);
    for (int size : new int[] {-1, 301, LOW, HIGH}) Check.due("5: window(" + size + ")", x.window(size), false);
    Check.due("5: window stays", x.count(10), 3);
    Check.due("5: window(0)", x.window(0), true);
    Nets.deal(x, 1, 2, 1, 2);
    Check.due("5: none leaves without a window", x.count(2), 5);
    Check.due("5: window(300)", x.window(300), true);
    Check.due("5: none leaves", x.count(2), 5);
    Check.due("5: window(1)", x.window(1), true);
    Check.due("5: one is live", x.count(2), 1);
    Check.due("5: the last one", x.host(8) >= 0, true);
    Check.due("5: line(3, 4)", x.line(3, 4) >= 0, true);
    Check.due("5: the last one again", Nets.hosts(x).startsWith("---------") && x.host(9) >= 0, true);
  }

  private static void promise6() {
    LineDealer x = Nets.made(2, 0, 20, 5);
    Nets.deal(x, 0, 1, 0, 2, 3, 4);
    for (int line : new int[] {-1, 3, 299, 300, LOW, HIGH}) Check.due("6: leave(" + line + ")", x.leave(line), false);
    Check.due("6: leave(0)", x.leave(0), true);
    Check.due("6: leave(0) again", x.leave(0), false);
    Check.due("6: live", x.count(2), 2);
    Check.due("6: came", x.count(1), 3);
    Check.due("6: host(0)", x.host(0), -1);
    Check.due("6: load(0)", x.load(0), 1);
    Check.due("6: copies(0)", x.copies(0), 2);
    Check.due("6: copies(1)", x.copies(1), 0);
    Check.due("6: degree(0)", x.degree(0), 1);
    Check.due("6: the next one has a number of its own", x.line(8, 9) >= 0 && x.host(3) >= 0 && x.host(0) == -1, true);
  }

  private static void promise7() {
    LineDealer x = Nets.made(2, 1, 100, 5);
    Check.due("7: better(1) of no lines", x.better(1), 0);
    Nets.deal(x, 0, 1, 0, 2, 1, 2);
    Check.due("7: better(0)", x.better(0), 0);
    Check.due("7: nothing moved", Nets.hosts(x), "101");
    Check.due("7: better(1)", x.better(1), 1);
    Check.due("7: fewer copies come first", Nets.hosts(x), "111");
    Check.due("7: all()", x.all(), 3);
    x.line(4, 7);
    Check.due("7: as many copies, smaller squares", x.better(50), 1);
    Check.due("7: then", Nets.hosts(x), "1110");
    Check.due("7: none lessens", x.better(50), 0);
    for (int n : new int[] {-1, 51, LOW, HIGH}) Check.due("7: better(" + n + ")", x.better(n), -1);
    Check.due("7: moves ever", x.count(3), 2);
    LineDealer y = Nets.made(2, 1, 100, 5);
    // Ten disjoint lines, all on host 0: five moves make it even.
    for (int p = 0; p < 20; p++) y.line(2 * p % 40, (2 * p + 2) % 40);
    for (int line = 0; line < 20; line += 2) y.leave(line);
    Check.due("7: ten on one host", y.load(0), 10);
    Check.due("7: n moves at most", y.better(2), 2);
    Check.due("7: three more make it even", y.better(50), 3);
    Check.due("7: load(0)", y.load(0), 5);
    Check.due("7: moves ever", y.count(3), 5);
  }

  private static void promise7Order() {
    LineDealer x = Nets.made(3, 1, 100, 5);
    // Disjoint lines stay on host 0 when those between them, on hosts 1 and 2, have left.
    Nets.deal(x, 0, 3, 1, 39, 2, 39, 6, 9, 1, 39, 2, 39, 12, 15, 1, 39, 2, 39, 18, 21);
    for (int line = 0; line < 10; line++) if (line % 3 != 0) x.leave(line);
    Check.due("7: all on host 0", Nets.hosts(x), "0--0--0--0");
    Check.due("7: better(1)", x.better(1), 1);
    Check.due("7: the least line to the least host", Nets.hosts(x), "1--0--0--0");
    Check.due("7: better(1)", x.better(1), 1);
    Check.due("7: to the host of the least load", Nets.hosts(x), "1--2--0--0");
    Check.due("7: no move more", x.better(9), 0);
    LineDealer y = Nets.made(3, 1, 100, 5);
    Nets.deal(y, 30, 33, 0, 1, 0, 6, 2, 5, 0, 2, 1, 2);
    Check.due("7: dealt", Nets.hosts(y), "010120");
    int copies = y.all();
    // Line 4 and line 5 both save two copies on host 1; by line 5, from the greatest load, squares are least.
    Check.due("7: better(1)", y.better(1), 1);
    Check.due("7: of like ones the least squares", Nets.hosts(y), "010121");
    Check.due("7: two copies fewer", copies - y.all(), 2);
    Check.due("7: better(1)", y.better(1), 1);
    Check.due("7: copies come ahead of squares", Nets.hosts(y), "010111");
    Check.due("7: two copies fewer again", copies - y.all(), 4);
  }

  private static void promise7Room() {
    LineDealer x = Nets.made(2, 1, 100, 5);
    Nets.deal(x, 0, 1, 0, 2, 1, 2, 30, 32);
    Check.due("7: dealt", Nets.hosts(x), "1010");
    x.weights(0, 5);
    Check.due("7: room for 2 on each host alone", x.better(5), 0);
    x.weights(1, 5);
    Check.due("7: room for 3, a begun one as a whole one", x.better(5), 1);
    Check.due("7: two copies fewer", Nets.hosts(x), "1110");
  }

  private static void promise8() {
    LineDealer x = Nets.made(6, 0, 20, 5);
    Nets.deal(x, 0, 1, 2, 3);
    Check.due("8: more()", x.more(), 7);
    Check.due("8: load(6)", x.load(6), 0);
    Check.due("8: load(7)", x.load(7), -1);
    Check.due("8: more()", x.more(), 8);
    Check.due("8: more() beyond 8", x.more(), -1);
    Check.due("8: hosts", x.count(0), 8);
    Check.due("8: lines stay", Nets.hosts(x), "01");
    LineDealer y = Nets.made(3, 0, 20, 5);
    Nets.deal(y, 0, 1, 2, 3, 4, 5);
    y.less(2);
    y.more();
    Check.due("8: a new host is empty", y.load(2), 0);
    Check.due("8: no copy on it", (y.copies(4) | y.copies(5)) < 4, true);
    Check.due("8: and has the next line", y.line(6, 7), 2);
  }

  private static void promise9() {
    LineDealer x = Nets.made(4, 0, 20, 5);
    Nets.deal(x, 0, 1, 2, 3, 4, 5, 6, 7, 8, 9, 10, 11, 12, 13, 14, 15);
    for (int host : new int[] {-1, 4, LOW, HIGH}) Check.due("9: less(" + host + ")", x.less(host), -1);
    x.leave(4);
    Check.due("9: less(0), whose line 4 left", x.less(0), 1);
    Check.due("9: hosts behind have one number less", Nets.hosts(x), "0012-012");
    Check.due("9: hosts", x.count(0), 3);
    Check.due("9: live", x.count(2), 7);
    Check.due("9: load(0)", x.load(0), 3);
    Check.due("9: load(3)", x.load(3), -1);
    Check.due("9: copies(6)", x.copies(6), 4);
    Check.due("9: less(1)", x.less(1), 2);
    Check.due("9: less(0) of two", x.less(0), -1);
    Check.due("9: less(1) of two", x.less(1), -1);
    Check.due("9: dealt anew by numbers", Nets.hosts(x), "0011-001");
    Check.due("9: no moves", x.count(3), 0);
  }

  private static void promise9Rules() {
    LineDealer x = Nets.made(3, 1, 100, 5);
    // Rule 1 asks how many hosts there are then: 2, and their new numbers.
    Nets.deal(x, 1, 3, 2, 3, 0, 3, 1, 2, 0, 9, 2, 4);
    Check.due("9: dealt", Nets.hosts(x), "120000");
    Check.due("9: less(0)", x.less(0), 4);
    Check.due("9: by rule 1, two hosts", Nets.hosts(x), "011110");
    LineDealer y = Nets.made(3, 2, 0, 0);
    Nets.deal(y, 0, 1, 0, 2, 0, 3, 0, 4, 0, 5, 0, 6);
    Check.due("9: dealt", Nets.hosts(y), "012012");
    // Lines 0 and 3 are not there while room for the first is counted: 5 by 2 hosts is 3, for the second 6 by 2.
    Check.due("9: less(0)", y.less(0), 2);
    Check.due("9: by room", Nets.hosts(y), "001101");
    LineDealer z = Nets.made(3, 1, 100, 0);
    Nets.deal(z, 0, 3, 0, 1, 0, 6);
    z.rule(2);
    // Line 0 is dealt while line 2 is to come yet: point 0 lies on what was host 1 alone.
    Check.due("9: less(0)", z.less(0), 2);
    Check.due("9: copies pull", Nets.hosts(z), "000");
    LineDealer w = Nets.made(3, 0, 20, 5);
    w.window(3);
    Nets.deal(w, 0, 1, 2, 3, 4, 5);
    Check.due("9: less(0) in a full window", w.less(0), 1);
    Check.due("9: none leaves", w.count(2), 3);
    Check.due("9: none comes", w.count(1), 3);
  }

  private static void promise10to14() {
    LineDealer x = Nets.made(3, 1, 100, 5);
    Nets.deal(x, 0, 1, 0, 2, 0, 39, 0, 1);
    Check.due("10: hosts", Nets.hosts(x), "1201");
    for (int line : new int[] {-1, 4, 299, 300, LOW, HIGH}) Check.due("10: host(" + line + ")", x.host(line), -1);
    x.leave(2);
    Check.due("10: host(2), which left", x.host(2), -1);
    Check.due("11: load(0)", x.load(0), 0);
    Check.due("11: load(1)", x.load(1), 2);
    Check.due("11: load(2)", x.load(2), 1);
    for (int host : new int[] {-1, 3, 8, LOW, HIGH}) Check.due("11: load(" + host + ")", x.load(host), -1);
    Check.due("12: copies(0)", x.copies(0), 6);
    Check.due("12: copies(1)", x.copies(1), 2);
    Check.due("12: copies(2)", x.copies(2), 4);
    Check.due("12: copies(39)", x.copies(39), 0);
    for (int point : new int[] {-1, 40, LOW, HIGH}) {
      Check.due("12: copies(" + point + ")", x.copies(point), -1);
      Check.due("14: degree(" + point + ")", x.degree(point), -1);
    }
    Check.due("13: all()", x.all(), 4);
    x.leave(0);
    Check.due("13: a copy stays while a line holds it", x.all(), 4);
    x.leave(3);
    Check.due("13: all()", x.all(), 2);
    Check.due("13: of none", new LineDealer(3).all(), 0);
    Check.due("14: degree(0)", x.degree(0), 1);
    Check.due("14: degree(1)", x.degree(1), 0);
    Check.due("14: degree(39)", x.degree(39), 0);
  }

  private static void promise15() {
    LineDealer x = Nets.made(3, 0, 20, 5);
    Check.due("15: room for none", x.room(), 0);
    int[] rooms = {1, 1, 2, 2, 2, 3, 3, 4, 4, 4};
    for (int n = 1; n <= rooms.length; n++) {
      x.line(0, n);
      Check.due("15: room for " + n, x.room(), rooms[n - 1]);
    }
    x.weights(0, 5);
    Check.due("15: slack 0", x.room(), 4);
    x.weights(100, 5);
    Check.due("15: slack 100", x.room(), 7);
    x.more();
    Check.due("15: by 4 hosts", x.room(), 5);
    x.leave(0);
    Check.due("15: for 9 lines", x.room(), 5);
    x.leave(1);
    Check.due("15: for 8 lines", x.room(), 4);
  }

  private static void promise16() {
    LineDealer x = new LineDealer(2);
    Check.due("16: of no lines", x.best(), -1);
    Nets.deal(x, 0, 1, 0, 2, 0, 3, 0, 4);
    x.weights(0, 5);
    Check.due("16: star of 4, room 2", x.best(), 6);
    x.weights(100, 5);
    Check.due("16: star of 4, room 4", x.best(), 5);
    Nets.deal(x, 0, 5, 0, 6, 0, 7, 0, 8);
    Check.due("16: star of 8, room 8", x.best(), 9);
    x.weights(20, 5);
    Check.due("16: star of 8, room 5", x.best(), 10);
    x.line(0, 9);
    Check.due("16: of 9 lines", x.best(), -1);
    x.leave(3);
    Check.due("16: of 8 again", x.best(), 10);
    x.more();
    x.weights(0, 5);
    Check.due("16: 8 lines by 3 hosts, room 3", x.best(), 11);
    x.more();
    Check.due("16: by 4 hosts", x.best(), -1);
    x.less(0);
    Check.due("16: by 3 again", x.best(), 11);
    LineDealer y = Nets.made(3, 0, 0, 5);
    Nets.deal(y, 0, 1, 2, 3, 0, 1, 2, 3, 0, 1, 2, 3);
    Check.due("16: three pairs of two kinds, room 2", y.best(), 8);
    y.weights(50, 5);
    Check.due("16: room 3", y.best(), 4);
    String before = Nets.hosts(y);
    y.best();
    Check.due("16: asked, not dealt", Nets.hosts(y), before);
    LineDealer one = new LineDealer(3);
    one.line(8, 9);
    Check.due("16: of 1 line", one.best(), 2);
    one.leave(0);
    Check.due("16: of none left", one.best(), -1);
  }

  private static void promise17and18() {
    LineDealer x = Nets.made(2, 1, 100, 5);
    Check.due("18: rounds of nothing", x.run(0), 1);
    Check.due("18: letters of nothing", x.run(1), 0);
    Check.due("18: parts of nothing", x.run(2), 0);
    for (int what : new int[] {-1, 3, LOW, HIGH}) Check.due("18: run(" + what + ")", x.run(what), -1);
    for (int point : new int[] {-1, 40, LOW, HIGH}) Check.due("17: part(" + point + ")", x.part(point), -1);
    for (int p = 0; p < 40; p++) Check.due("17: part(" + p + ") alone", x.part(p), p);
    Nets.deal(x, 5, 6, 6, 8);
    Check.due("18: values as they were ahead of the round", x.run(0), 3);
    Check.due("17: part(8)", x.part(8), 5);
    Check.due("18: one part with a line", x.run(2), 1);
    Check.due("18: point 6 has two copies", x.run(1), 6);
    Nets.deal(x, 20, 30, 30, 21);
    Check.due("18: two parts", x.run(2), 2);
    Check.due("17: part(30)", x.part(30), 20);
    Check.due("18: two points with two copies", x.run(1), 12);
    x.leave(0);
    Check.due("17: part(8) after line 0 left", x.part(8), 6);
    Check.due("17: part(5)", x.part(5), 5);
    LineDealer path = new LineDealer(4);
    for (int p = 0; p < 39; p++) path.line(p, p + 1);
    Check.due("18: the longest path", path.run(0), 40);
    Check.due("17: its end", path.part(39), 0);
    Check.due("18: one part", path.run(2), 1);
    LineDealer star = Nets.made(8, 1, 100, 0);
    for (int p = 1; p <= 8; p++) star.line(0, p);
    Check.due("18: point 0 on all hosts", star.copies(0), 255);
    Check.due("18: two letters for each copy but one", star.run(1), 2 * 2 * 7);
  }

  private static void promise19() {
    LineDealer x = Nets.made(2, 1, 100, 5);
    Check.due("19: of no copy", x.master(0), -1);
    for (int point : new int[] {-1, 40, LOW, HIGH}) Check.due("19: master(" + point + ")", x.master(point), -1);
    Nets.deal(x, 0, 1, 0, 2, 2, 3, 1, 3, 4, 5, 4, 6, 4, 39);
    Check.due("19: dealt", Nets.hosts(x), "1010101");
    int[] masters = {0, 1, 0, 1, 0, 1, 0, -1};
    for (int p = 0; p < masters.length; p++) Check.due("19: master(" + p + ")", x.master(p), masters[p]);
    Check.due("19: master(39)", x.master(39), 1);
    LineDealer y = Nets.made(2, 1, 100, 5);
    Nets.deal(y, 0, 2, 1, 3, 4, 6, 4, 5);
    Check.due("19: the host that is master of the fewest", y.master(4), 1);
    Check.due("19: the only one with a copy", y.master(3), 0);
    y.leave(3);
    Check.due("19: where its copy is", y.master(4), 0);
  }

  private static void promise20() {
    LineDealer x = Nets.made(3, 1, 100, 7);
    Nets.deal(x, 0, 3, 0, 6, 0, 9, 1, 3, 0, 2);
    x.leave(1);
    x.window(200);
    int[] counts = {3, 5, 4, 0, 2, 1, 5, 1, 100, 7, 200};
    for (int what = 0; what < counts.length; what++) Check.due("20: count(" + what + ")", x.count(what), counts[what]);
    for (int what : new int[] {-1, 11, LOW, HIGH}) Check.due("20: count(" + what + ")", x.count(what), -1);
    x.more();
    Check.due("20: the least load is the new host's", x.count(5), 0);
    Check.due("20: hosts", x.count(0), 4);
    x.window(1);
    Check.due("20: the greatest load", x.count(4), 1);
    Check.due("20: points with a copy", x.count(6), 2);
    Check.due("20: came", x.count(1), 5);
  }
}
