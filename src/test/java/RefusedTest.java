import java.util.ArrayList;
import java.util.List;
import java.util.Set;
import java.util.TreeSet;
import java.util.function.Supplier;
import java.util.function.ToIntFunction;

/**
 * "What is refused changes nothing.": on empty nets, full ones and others each call that is to be refused
 * is, and afterwards all that can be asked is as it was before; so it is when something was but asked.
 */
public final class RefusedTest {
  private static final int NONE = Nets.NONE;

  /** A net, and what is known of it by the way in which it was made. */
  private record Net(String name, int hosts, int came, Set<Integer> live, Supplier<LineDealer> make) {
  }

  private record Call(String name, int due, ToIntFunction<LineDealer> call) {
  }

  public static void main(String[] args) {
    for (Net net : nets()) {
      String before = Nets.answers(net.make);
      Check.due(net.name + ": asked again", Nets.answers(net.make), before);
      for (Call call : refusedCalls(net)) {
        Check.due(net.name + ": " + call.name, call.call.applyAsInt(net.make.get()), call.due);
        changesNothing(net, call, before);
      }
      for (Call call : askingCalls()) changesNothing(net, call, before);
    }
    Check.end("RefusedTest");
  }

  private static void changesNothing(Net net, Call call, String before) {
    Supplier<LineDealer> after = () -> {
      LineDealer y = net.make.get();
      call.call.applyAsInt(y);
      return y;
    };
    Check.due(net.name + ": " + call.name + ", then", Nets.answers(after), before);
  }

  private static List<Net> nets() {
    List<Net> nets = new ArrayList<>();
    for (int hosts : new int[] {2, 3, 8}) {
      nets.add(new Net("empty, " + hosts + " hosts", hosts, 0, Set.of(), () -> new LineDealer(hosts)));
      nets.add(new Net("300 live, " + hosts + " hosts", hosts, 300, from(0, 300), () -> dealt(hosts, 300, 0)));
      nets.add(new Net("300 came, full window, " + hosts + " hosts", hosts, 300, from(260, 300), () -> dealt(hosts, 300, 40)));
    }
    nets.add(new Net("window of 300, full", 5, 300, from(0, 300), () -> dealt(5, 300, 300)));
    nets.add(new Net("window of 1, full", 3, 20, from(19, 20), () -> dealt(3, 20, 1)));
    nets.add(new Net("one line", 2, 1, from(0, 1), () -> dealt(2, 1, 0)));
    nets.add(new Net("eight live lines", 3, 9, from(1, 9), () -> dealt(3, 9, 8)));
    nets.add(new Net("nine live lines", 3, 9, from(0, 9), () -> dealt(3, 9, 9)));
    nets.add(new Net("299 came", 4, 299, from(0, 299), () -> dealt(4, 299, 0)));
    nets.add(new Net("300 came, all left", 2, 300, Set.of(), RefusedTest::allLeft));
    nets.add(new Net("much changed", 7, 80, without(from(30, 80), 50), RefusedTest::changed));
    return nets;
  }

  private static LineDealer dealt(int hosts, int lines, int window) {
    LineDealer x = new LineDealer(hosts);
    x.window(window);
    Nets.bring(x, lines);
    return x;
  }

  private static LineDealer allLeft() {
    LineDealer x = dealt(2, 300, 1);
    x.leave(299);
    return x;
  }

  private static LineDealer changed() {
    LineDealer x = Nets.made(8, 1, 70, 30);
    Nets.bring(x, 80);
    x.window(50);
    x.leave(50);
    x.less(2);
    x.better(3);
    x.weights(41, 42);
    x.rule(0);
    return x;
  }

  private static Set<Integer> from(int least, int end) {
    Set<Integer> lines = new TreeSet<>();
    for (int line = least; line < end; line++) lines.add(line);
    return lines;
  }

  private static Set<Integer> without(Set<Integer> lines, int line) {
    lines.remove(line);
    return lines;
  }

  private static List<Call> refusedCalls(Net net) {
    List<Call> calls = new ArrayList<>();
    addLines(calls, net);
    addSettings(calls);
    addLeaving(calls, net);
    addHosts(calls, net);
    addQuestions(calls, net);
    return calls;
  }

  private static void addLines(List<Call> calls, Net net) {
    for (int odd : Nets.outside(0, 39)) {
      addLine(calls, odd, 0);
      addLine(calls, 39, odd);
      addLine(calls, odd, odd);
      addLine(calls, odd, -odd);
    }
    for (int point = 0; point < 40; point += 13) addLine(calls, point, point);
    if (net.came == 300) {
      addLine(calls, 0, 1);
      addLine(calls, 39, 0);
      addLine(calls, 17, 18);
    }
  }

  private static void addLine(List<Call> calls, int u, int v) {
    calls.add(new Call("line(" + u + ", " + v + ")", NONE, x -> x.line(u, v)));
  }

  private static void addSettings(List<Call> calls) {
    for (int odd : Nets.outside(0, 2)) calls.add(new Call("rule(" + odd + ")", 0, x -> bit(x.rule(odd))));
    for (int odd : Nets.outside(0, 100)) {
      calls.add(new Call("weights(" + odd + ", 60)", 0, x -> bit(x.weights(odd, 60))));
      calls.add(new Call("weights(60, " + odd + ")", 0, x -> bit(x.weights(60, odd))));
      calls.add(new Call("weights(" + odd + ", " + odd + ")", 0, x -> bit(x.weights(odd, odd))));
    }
    for (int odd : Nets.outside(0, 300)) calls.add(new Call("window(" + odd + ")", 0, x -> bit(x.window(odd))));
    for (int odd : Nets.outside(0, 50)) calls.add(new Call("better(" + odd + ")", NONE, x -> x.better(odd)));
  }

  private static void addLeaving(List<Call> calls, Net net) {
    Set<Integer> lines = new TreeSet<>();
    for (int odd : Nets.outside(0, 299)) lines.add(odd);
    // Those that have not come yet, and those that left: at both ends of their rows, and some between them.
    for (int line : new int[] {0, 1, 7, 18, 29, 50, 100, 259, 298, 299, net.came, net.came + 1}) lines.add(line);
    lines.removeAll(net.live);
    for (int line : lines) {
      calls.add(new Call("leave(" + line + ")", 0, x -> bit(x.leave(line))));
      calls.add(new Call("host(" + line + ")", NONE, x -> x.host(line)));
    }
  }

  private static void addHosts(List<Call> calls, Net net) {
    for (int odd : Nets.outside(0, net.hosts - 1)) {
      calls.add(new Call("less(" + odd + ")", NONE, x -> x.less(odd)));
      calls.add(new Call("load(" + odd + ")", NONE, x -> x.load(odd)));
    }
    if (net.hosts == 2) {
      calls.add(new Call("less(0) of two", NONE, x -> x.less(0)));
      calls.add(new Call("less(1) of two", NONE, x -> x.less(1)));
    }
    if (net.hosts == 8) calls.add(new Call("more() beside eight", NONE, LineDealer::more));
  }

  private static void addQuestions(List<Call> calls, Net net) {
    for (int odd : Nets.outside(0, 39)) {
      calls.add(new Call("copies(" + odd + ")", NONE, x -> x.copies(odd)));
      calls.add(new Call("degree(" + odd + ")", NONE, x -> x.degree(odd)));
      calls.add(new Call("part(" + odd + ")", NONE, x -> x.part(odd)));
      calls.add(new Call("master(" + odd + ")", NONE, x -> x.master(odd)));
    }
    for (int odd : Nets.outside(0, 2)) calls.add(new Call("run(" + odd + ")", NONE, x -> x.run(odd)));
    for (int odd : Nets.outside(0, 10)) calls.add(new Call("count(" + odd + ")", NONE, x -> x.count(odd)));
    if (net.live.isEmpty()) {
      calls.add(new Call("master(0), no copy", NONE, x -> x.master(0)));
      calls.add(new Call("master(39), no copy", NONE, x -> x.master(39)));
    }
    if (net.live.isEmpty() || net.live.size() > 8 || net.hosts > 3) {
      calls.add(new Call("best()", NONE, LineDealer::best));
    }
  }

  /** Calls that may be asked: what is due of them is said elsewhere, here that they change nothing. */
  private static List<Call> askingCalls() {
    List<Call> calls = new ArrayList<>();
    for (int i : new int[] {0, 1, 2, 39}) {
      calls.add(new Call("host(" + i + ")", 0, x -> x.host(i)));
      calls.add(new Call("load(" + i + ")", 0, x -> x.load(i)));
      calls.add(new Call("copies(" + i + ")", 0, x -> x.copies(i)));
      calls.add(new Call("degree(" + i + ")", 0, x -> x.degree(i)));
      calls.add(new Call("part(" + i + ")", 0, x -> x.part(i)));
      calls.add(new Call("run(" + i + ")", 0, x -> x.run(i)));
      calls.add(new Call("master(" + i + ")", 0, x -> x.master(i)));
    }
    for (int what = 0; what <= 10; what++) {
      int asked = what;
      calls.add(new Call("count(" + what + ")", 0, x -> x.count(asked)));
    }
    calls.add(new Call("all()", 0, LineDealer::all));
    calls.add(new Call("room()", 0, LineDealer::room));
    calls.add(new Call("best()", 0, LineDealer::best));
    calls.add(new Call("better(0)", 0, x -> x.better(0)));
    return calls;
  }

  private static int bit(boolean answer) {
    return answer ? 1 : 0;
  }
}
