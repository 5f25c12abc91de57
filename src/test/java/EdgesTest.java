import java.util.Arrays;
import java.util.List;
import java.util.Set;
import java.util.TreeSet;
import java.util.function.Supplier;

/**
 * The promises, one by one: each argument just within and just beyond its edges (and far beyond), for a
 * new object, one with a small text and one with a full text; and that a call that is refused, or that
 * only tells something, leaves all as it was.
 */
public final class EdgesTest {
  private static final Checks CHECKS = new Checks("EdgesTest");
  private static final int NONE = FirstOver.NONE;

  private static final String SMALL =
      "trait s; trait a; trait b; being p 4 s; being q 3 a; being r 2 a b; way w 2 gives b; way v 1 drops b;"
          + "bridge x 5 7 = s or a; bridge y 1 3 = not s and b; storm 30; seed 12; mends = 2;";

  /** 8 TRAITS, 7 BEINGS, 4 WAYS, 4 BRIDGES; each of three BEINGS cheats by a TRAIT of its own. */
  private static final String FULL =
      "trait s; trait a; trait b; trait c; trait d; trait e; trait f; trait g;"
          + "being i 1 a; being j 2 b; being k 3 g; being l 4 s; being m 5 s a; being n 6 s g; being o 99 s a b c d e f g;"
          + "way t 0; way u 1 gives f; way v 2 drops f gives e; way w 99 gives s;"
          + "bridge q 99 0 = a or b or g; bridge r 9 99 = s or a or b or g; bridge x 1 9 = a or b or g;"
          + "bridge z 50 50 = g or b or a or s; storm 20; seed 9999; wears = 1 + which; mends = stones; asks = loss + many;";

  private interface Call {
    long on(FirstOver x);
  }

  private interface One {
    long on(FirstOver x, int a);
  }

  private interface Two {
    long on(FirstOver x, int a, int b);
  }

  private interface Three {
    long on(FirstOver x, int a, int b, int c);
  }

  /** What an argument may be: from one to the other. */
  private record Range(int least, int most) {
    boolean has(int value) {
      return value >= least && value <= most;
    }

    Set<Integer> looked() {
      Set<Integer> values = new TreeSet<>();
      for (int i = -2; i <= 2; i++) {
        values.add(least + i);
        values.add(most + i);
      }
      for (int value : new int[] {-1000, -256, -32, 0, 31, 32, 64, 255, 256, 257, 1000, 65536}) {
        values.add(value);
      }
      values.add(Integer.MIN_VALUE);
      values.add(Integer.MIN_VALUE + 1);
      values.add(Integer.MAX_VALUE - 1);
      values.add(Integer.MAX_VALUE);
      return values;
    }
  }

  private static void due(String what, long got, long want) {
    CHECKS.due(what, got, want);
  }

  private static void due(String what, boolean got, boolean want) {
    CHECKS.due(what, got, want);
  }

  private static void says(String words) {
    CHECKS.says(words);
  }

  private static long bit(boolean is) {
    return is ? 1 : 0;
  }

  private static FirstOver small() {
    return Checks.of(SMALL);
  }

  /** One BRIDGE OPEN, one FALLEN, things to undo, two SLOTS, two TOLD, bytes on the tape. */
  private static FirstOver smallLived() {
    FirstOver x = small();
    x.hold(2);
    x.send(0, 0, 1);
    x.mend(0);
    x.send(1, 2, NONE);
    x.hold(0);
    x.years(1);
    x.tell(0, true);
    x.tell(1, false);
    Checks.put(x, "trait");
    return x;
  }

  /** The most of all: of each sort, of TOLD ones, of things to undo, of SLOTS, of bytes. */
  private static FirstOver fullLived() {
    FirstOver x = Checks.of(FULL);
    x.hold(0);
    x.send(2, 0, NONE);
    x.send(0, 1, NONE);
    x.hold(1);
    for (int i = 0; i < 40; i++) {
      x.send(1, 0, 0);
      x.mend(0);
    }
    x.years(2);
    x.hold(2);
    for (int i = 0; i < 20; i++) {
      x.tell(i % 8, i % 8 == 1);
    }
    Checks.put(x, "x".repeat(2000));
    return x;
  }

  /** All that can be told, now and behind each undo and each restore; the object is used up. */
  private static String fate(FirstOver x) {
    StringBuilder told = new StringBuilder(TermsTest.state(x)).append(x.place());
    for (int i = 0; i < 42; i++) {
      told.append(x.undo()).append(shortly(x));
    }
    for (int slot = -1; slot < 4; slot++) {
      told.append(x.restore(slot)).append(shortly(x)).append(x.undo());
    }
    return told.toString();
  }

  private static String shortly(FirstOver x) {
    StringBuilder told = new StringBuilder();
    for (int what = 4; what < 16; what++) {
      told.append(x.count(what)).append(' ');
    }
    for (int bridge = 0; bridge < 4; bridge++) {
      told.append(x.bridge(bridge, 0)).append(' ').append(x.bridge(bridge, 3)).append(' ');
    }
    return told.append('\n').toString();
  }

  /** The answer is due, and all is as it was ahead of the call. */
  private static void stays(String what, Supplier<FirstOver> made, Call call, long want) {
    FirstOver x = made.get();
    due(what, call.on(x), want);
    due(what + ": all is as it was", fate(x).equals(fate(made.get())), true);
  }

  public static void main(String[] args) {
    ranges();
    nothingHappens();
    newObject();
    feed();
    back();
    readAndPlace();
    beingAndWay();
    bridge();
    taken();
    send();
    openOrFallen();
    mend();
    years();
    undo();
    shutsOfAll();
    tellAndForget();
    slots();
    counts();
    CHECKS.end();
  }

  // ---- each argument, within and beyond

  /** The answer is NONE if, and only if, an argument is beyond. */
  private static void range(String name, FirstOver x, Range one, Range other, Two call) {
    for (int a : one.looked()) {
      for (int b : other.looked()) {
        boolean isNone = call.on(x, a, b) == NONE;
        due(name + "(" + a + ", " + b + ") is NONE", isNone, !one.has(a) || !other.has(b));
      }
    }
  }

  private static void range(String name, FirstOver x, Range one, One call) {
    for (int a : one.looked()) {
      due(name + "(" + a + ") is NONE", call.on(x, a) == NONE, !one.has(a));
    }
  }

  private static void range(String name, FirstOver x, Range one, Range two, Range three, Three call) {
    for (int a : one.looked()) {
      for (int b : two.looked()) {
        for (int c : three.looked()) {
          boolean isNone = call.on(x, a, b, c) == NONE;
          boolean isDue = !one.has(a) || !two.has(b) || !three.has(c);
          due(name + "(" + a + ", " + b + ", " + c + ") is NONE", isNone, isDue);
        }
      }
    }
  }

  private static void ranges() {
    says("NONE for others; NONE: no such ones");
    rangesOf(new FirstOver());
    rangesOf(small());
    rangesOf(Checks.of(FULL));
    rangesOf(smallLived());
    rangesOf(fullLived());
    rangesOf(Checks.of("trait s; trait a; bridge b 1 0 = s;"));
    rangesOf(Checks.of("trait s; being p 1 s; way w 1;"));
  }

  private static void rangesOf(FirstOver x) {
    Range traits = new Range(0, x.count(0) - 1);
    Range beings = new Range(0, x.count(1) - 1);
    Range ways = new Range(0, x.count(2) - 1);
    Range waysOrNone = new Range(NONE, x.count(2) - 1);
    Range bridges = new Range(0, x.count(3) - 1);
    Range sets = new Range(0, (1 << x.count(0)) - 1);
    Range known = new Range(0, x.count(13));
    Range ahead = new Range(0, 60);
    range("being", x, beings, new Range(0, 2), (o, a, b) -> o.being(a, b));
    range("set", x, beings, waysOrNone, (o, a, b) -> o.set(a, b));
    range("way", x, ways, new Range(0, 2), (o, a, b) -> o.way(a, b));
    range("bridge", x, bridges, new Range(0, 6), (o, a, b) -> o.bridge(a, b));
    range("asks", x, bridges, beings, (o, a, b) -> o.asks(a, b));
    range("holds", x, bridges, sets, (o, a, b) -> o.holds(a, b));
    range("cheap", x, bridges, new Range(0, 2), (o, a, b) -> o.cheap(a, b));
    range("bar", x, bridges, new Range(0, 1), (o, a, b) -> o.bar(a, b));
    range("stonesIn", x, bridges, ahead, (o, a, b) -> o.stonesIn(a, b));
    range("went", x, bridges, known, (o, a, b) -> o.went(a, b));
    range("sure", x, bridges, known, (o, a, b) -> o.sure(a, b));
    range("ask", x, bridges, known, (o, a, b) -> o.ask(a, b));
    range("cheats", x, bridges, (o, a) -> o.cheats(a));
    range("stands", x, bridges, (o, a) -> o.stands(a));
    range("openIn", x, ahead, (o, a) -> o.openIn(a));
    range("mendFirst", x, new Range(0, 1), (o, a) -> o.mendFirst(a));
    range("count", x, new Range(0, 15), (o, a) -> o.count(a));
    range("taken", x, bridges, beings, waysOrNone, (o, a, b, c) -> o.taken(a, b, c));
    range("alike", x, bridges, bridges, new Range(0, 1), (o, a, b, c) -> o.alike(a, b, c));
    range("year", x, bridges, ahead, new Range(1, 20), (o, a, b, c) -> o.year(a, b, c));
    allOf(x, bridges);
    shutsOf(x, bridges);
    doneOf(x, traits, beings, waysOrNone, bridges);
  }

  private static void allOf(FirstOver x, Range bridges) {
    int lost = x.all(NONE, 0);
    for (int what : new Range(0, 1).looked()) {
      due("all(NONE, " + what + "): whatever what is", x.all(NONE, what), lost);
      for (int bridge : bridges.looked()) {
        boolean isDue = bridge != NONE && (!bridges.has(bridge) || what < 0 || what > 1);
        due("all(" + bridge + ", " + what + ") is NONE", x.all(bridge, what) == NONE, isDue);
      }
    }
  }

  /** NONE stands for an i that is not so many, too. */
  private static void shutsOf(FirstOver x, Range bridges) {
    for (int bridge : bridges.looked()) {
      for (int i : new Range(NONE, 2).looked()) {
        boolean is = bridges.has(bridge);
        int many = is ? x.shuts(bridge, NONE) : 0;
        boolean isDue = !is || i < NONE || i > 2 || many != -2 && i >= many;
        due("shuts(" + bridge + ", " + i + ") is NONE", x.shuts(bridge, i) == NONE, isDue);
      }
    }
  }

  /** Those that do something; what was done is taken back. */
  private static void doneOf(FirstOver x, Range traits, Range beings, Range waysOrNone, Range bridges) {
    x.hold(1);
    x.restore(1);
    int told = x.count(13);
    for (int bridge : bridges.looked()) {
      for (int being : beings.looked()) {
        for (int way : waysOrNone.looked()) {
          boolean isDue = !bridges.has(bridge) || !beings.has(being) || !waysOrNone.has(way);
          boolean isNone = x.send(bridge, being, way) == NONE;
          due("send(" + bridge + ", " + being + ", " + way + ") is NONE", isNone, isDue);
          due("no thing done", isNone && x.count(12) != 0, false);
          x.restore(1);
        }
      }
      due("mend(" + bridge + ") is NONE", x.mend(bridge) == NONE, !bridges.has(bridge));
      x.restore(1);
    }
    for (int n : new Range(0, 60).looked()) {
      due("years(" + n + ") is NONE", x.years(n) == NONE, n < 0 || n > 60);
      x.restore(1);
    }
    for (int trait : traits.looked()) {
      due("tell(" + trait + ") is NONE", x.tell(trait, true) == NONE, !traits.has(trait) || x.count(13) == 20 && told == 20);
      if (told < 20 && x.count(13) > 10) {
        x.forget();
      }
    }
    for (int slot : new Range(0, 2).looked()) {
      due("restore(" + slot + ")", !x.restore(slot) && slot == 1, false);
      due("hold(" + slot + ")", x.hold(slot), slot >= 0 && slot <= 2);
      due("restore(" + slot + ") then", x.restore(slot), slot >= 0 && slot <= 2);
    }
  }

  // ---- what is refused, and what only tells, changes nothing

  private static void nothingHappens() {
    says("and nothing happens; What would be (nothing happens)");
    Supplier<FirstOver> small = EdgesTest::smallLived;
    Supplier<FirstOver> full = EdgesTest::fullLived;
    stays("feed", full, x -> x.feed(1, 2, 3, 4, 5), NONE);
    stays("back", small, x -> x.back(6), NONE);
    stays("back", small, x -> x.back(-1), NONE);
    stays("back(0)", small, x -> x.back(0), 5);
    stays("back", full, x -> x.back(2001), NONE);
    stays("send: no such BRIDGE", small, x -> x.send(2, 1, 0), NONE);
    stays("send: no such BEING", small, x -> x.send(0, 3, 0), NONE);
    stays("send: no such WAY", small, x -> x.send(0, 1, 2), NONE);
    stays("send: no such WAY", small, x -> x.send(0, 1, -2), NONE);
    stays("send: the BRIDGE is OPEN", small, x -> x.send(0, 1, 0), -2);
    stays("send: the BRIDGE is FALLEN", small, x -> x.send(1, 1, 0), -2);
    stays("send: the BEING is gone", full, x -> x.send(3, 0, 3), -2);
    stays("send: the BEING is gone, the BRIDGE OPEN", small, x -> x.send(0, 0, 0), -2);
    stays("mend: FALLEN", small, x -> x.mend(1), -2);
    stays("mend: not OPEN", full, x -> x.mend(3), -2);
    stays("mend: no such BRIDGE", small, x -> x.mend(2), NONE);
    stays("mend: no such BRIDGE", small, x -> x.mend(-1), NONE);
    stays("years(0)", small, x -> x.years(0), 1);
    stays("years(61)", small, x -> x.years(61), NONE);
    stays("years(-1)", small, x -> x.years(-1), NONE);
    stays("tell: no such TRAIT", small, x -> x.tell(3, true), NONE);
    stays("tell: no such TRAIT", small, x -> x.tell(-1, false), NONE);
    stays("tell: 20 are there", full, x -> x.tell(0, true), NONE);
    stays("hold: no such SLOT", full, x -> bit(x.hold(3)), 0);
    stays("hold: no such SLOT", full, x -> bit(x.hold(-1)), 0);
    stays("restore: no such SLOT", full, x -> bit(x.restore(3)), 0);
    stays("restore: no such SLOT", full, x -> bit(x.restore(-1)), 0);
    stays("restore: nothing is held", small, x -> bit(x.restore(1)), 0);
    for (Supplier<FirstOver> made : List.of(small, full)) {
      stays("what would be", made, EdgesTest::lookAtAll, 0);
    }
  }

  private static long lookAtAll(FirstOver x) {
    for (int bridge = -1; bridge <= 4; bridge++) {
      for (int i = -2; i < 8; i++) {
        x.being(bridge, i);
        x.set(bridge, i);
        x.way(bridge, i);
        x.bridge(bridge, i);
        x.asks(bridge, i);
        x.holds(bridge, i);
        x.taken(bridge, i, NONE);
        x.cheap(bridge, i);
        x.all(bridge, i);
        x.bar(bridge, i);
        x.shuts(bridge, i);
        x.alike(bridge, i, 0);
        x.alike(bridge, i, 1);
        x.stonesIn(bridge, 8 * i);
        x.year(bridge, 7 * i, 3 * i);
        x.went(bridge, i);
        x.sure(bridge, i);
        x.ask(bridge, i);
        x.openIn(8 * i);
        x.mendFirst(i);
        x.count(i);
      }
      x.cheats(bridge);
      x.stands(bridge);
    }
    return x.place() - x.place();
  }

  // ---- one by one

  private static void newObject() {
    says("No TRAITS, no BRIDGES.");
    FirstOver x = new FirstOver();
    for (int what = 0; what <= 15; what++) {
      due("count(" + what + ")", x.count(what), 0);
    }
    due("place()", x.place(), NONE);
    due("undo()", x.undo(), false);
    due("forget()", x.forget(), 0);
    due("tell(0, true)", x.tell(0, true), NONE);
    due("all(NONE, 0)", x.all(NONE, 0), 0);
    due("openIn(0)", x.openIn(0), 0);
    due("mendFirst(0)", x.mendFirst(0), -2);
    due("years(60)", x.years(60), 60);
    due("count(4)", x.count(4), 60);
    due("undo()", x.undo(), true);
    due("count(4)", x.count(4), 0);
    for (int slot = 0; slot < 3; slot++) {
      due("restore(" + slot + ")", x.restore(slot), false);
      due("hold(" + slot + ")", x.hold(slot), true);
    }
    due("another one has none of it", new FirstOver().count(14), 0);
  }

  private static void feed() {
    says("Twenty bytes, the highest of a first, come behind the tape: how many it has.");
    FirstOver x = new FirstOver();
    due("feed", x.feed(0x74726169, 0x74206162, 0x63646566, 0x67683b73, 0x65656420), 20);
    due("feed", x.feed(0x373b3f80, -1, 0, 0, 0), 40);
    due("SYNTAX at the byte 63", x.read(), 1);
    due("its place", x.place(), 22);
    for (int at = 0; at < 20; at++) {
      int[] words = new int[5];
      Arrays.fill(words, 0x20202020);
      words[at / 4] = words[at / 4] & ~(255 << 24 - at % 4 * 8) | 0x9d << 24 - at % 4 * 8;
      due("feed", x.feed(words[0], words[1], words[2], words[3], words[4]), 20);
      due("read()", x.read(), 1);
      due("the place of byte " + at, x.place(), at);
    }
    says("NONE, and nothing comes, if it would have more than 2,000.");
    for (int less = 0; less <= 21; less++) {
      FirstOver y = new FirstOver();
      for (int i = 0; i < 100; i++) {
        y.feed(0x20202020, 0x20202020, 0x20202020, 0x20202020, 0x20202020);
      }
      due("back(" + less + ")", y.back(less), 2000 - less);
      due("feed of " + (2000 - less), y.feed(0, 0, 0, 0, 0), less >= 20 ? 2020 - less : NONE);
      due("count(11)", y.count(11), less >= 20 ? 2020 - less : 2000 - less);
      due("read()", y.read(), less >= 20 ? 1 : 0);
      due("place()", y.place(), less >= 20 ? 2000 - less : NONE);
      due("the tape is empty", y.feed(0x20202020, 0, 0, 0, 0), 20);
    }
  }

  private static void back() {
    says("The last n bytes of the tape go: how many it has. NONE, and nothing goes, if it has not so many");
    FirstOver x = new FirstOver();
    due("back(0) of none", x.back(0), 0);
    due("back(1) of none", x.back(1), NONE);
    Checks.put(x, "seed 1; trait abc;");
    due("back(19)", x.back(19), NONE);
    due("back(18 and 2 to the 31st)", x.back(18 | Integer.MIN_VALUE), NONE);
    due("back(" + Integer.MAX_VALUE + ")", x.back(Integer.MAX_VALUE), NONE);
    due("count(11)", x.count(11), 18);
    due("back(11)", x.back(11), 7);
    due("read() of the rest", x.read(), 0);
    due("the TRAIT is gone", x.count(0), 0);
    Checks.put(x, "trait ab;");
    due("back(9)", x.back(9), 0);
    Checks.put(x, "trait a;");
    due("what went does not come again", x.read(), 0);
    due("count(0)", x.count(0), 1);
  }

  private static void readAndPlace() {
    says("The tape, which is empty then, is read: 0, or the number of its FAULT.");
    FirstOver x = new FirstOver();
    due("place() ahead of all", x.place(), NONE);
    String[] texts = {"?", "wears=(((((((", "trait a; being a 1;", "being b 1 c;", "storm 101;"};
    int[] places = {0, 12, 15, 10, 6};
    for (int i = 0; i < texts.length; i++) {
      Checks.put(x, texts[i]);
      due("read() of " + texts[i], x.read(), i + 1);
      due("count(11)", x.count(11), 0);
      due("place() of " + texts[i], x.place(), places[i]);
      says("place: of the latest read()");
      Checks.put(x, "seed 1;");
      due("place() stays", x.place(), places[i]);
      x.back(1);
      x.years(1);
      x.undo();
      due("place() stays", x.place(), places[i]);
      Checks.put(x, ";");
      due("read()", x.read(), 0);
      due("place() without", x.place(), NONE);
      due("read() of an empty tape", x.read(), 0);
      due("place() without", x.place(), NONE);
    }
  }

  private static void beingAndWay() {
    says("Of a BEING: what 2: 1 there, 0 gone");
    FirstOver x = Checks.of(FULL);
    for (int being = 0; being < 7; being++) {
      due("there", x.being(being, 2), 1);
    }
    due("send(0, 6, 3)", x.send(0, 6, 3), 1);
    for (int being = 0; being < 7; being++) {
      due("there", x.being(being, 2), being == 6 ? 0 : 1);
    }
    due("LOSS of one gone", x.being(6, 0), 99);
    due("TRAITS of one gone", x.being(6, 1), 255);
    due("set of one gone", x.set(6, 2), 191);
    due("set", x.set(0, 3), 3);
    says("TRAITS that it gives, that it drops");
    due("gives", x.way(1, 1), 64);
    due("drops", x.way(1, 2), 0);
    due("gives", x.way(2, 1), 32);
    due("drops", x.way(2, 2), 64);
    due("COST", x.way(3, 0), 99);
    due("a WAY that is NONE is no WAY here", x.way(NONE, 0), NONE);
  }

  private static void bridge() {
    says("2: 0 not OPEN, 1 OPEN, 2 FALLEN, 3 for how many years it has been OPEN, 4 WEARS now, 5 MENDS now");
    FirstOver x = Checks.of("trait s; being p 1 s; being q 1 s; bridge b 2 0 = s; bridge c 9 0 = s; wears = stood; mends = year;");
    x.years(5);
    due("0", x.bridge(0, 2), 0);
    due("not stood", x.bridge(0, 3), 0);
    x.send(0, 0, NONE);
    due("1", x.bridge(0, 2), 1);
    due("just now", x.bridge(0, 3), 0);
    due("WEARS", x.bridge(0, 4), 0);
    x.years(1);
    due("one year", x.bridge(0, 3), 1);
    due("WEARS", x.bridge(0, 4), 1);
    due("STONES", x.bridge(0, 0), 2);
    due("MENDS", x.bridge(0, 5), 6);
    x.years(1);
    due("STONES", x.bridge(0, 0), 1);
    due("two years", x.bridge(0, 3), 2);
    due("still OPEN", x.bridge(0, 2), 1);
    x.years(1);
    due("FALLEN", x.bridge(0, 2), 2);
    due("STONES", x.bridge(0, 0), 0);
    due("the other is not OPEN", x.bridge(1, 2), 0);
  }

  private static void taken() {
    says("0 it would, 1 the CLAUSE does not hold, 2 its set is learnt (gone or not, the BRIDGE OPEN or not)");
    FirstOver x = small();
    due("holds", x.taken(0, 1, NONE), 0);
    due("does not", x.taken(1, 1, NONE), 1);
    due("does by the WAY", x.taken(1, 1, 0), 0);
    x.send(0, 0, NONE);
    due("gone, OPEN", x.taken(0, 0, NONE), 0);
    due("gone, does not hold", x.taken(1, 0, 0), 1);
    x.send(1, 2, NONE);
    due("FALLEN", x.bridge(1, 2), 2);
    due("FALLEN, learnt", x.taken(1, 2, NONE), 2);
    due("learnt, of another BEING by a WAY", x.taken(0, 1, 0), 2);
    due("not learnt, of the same BEING", x.taken(0, 2, 1), 0);
    due("FALLEN, does not hold", x.taken(1, 2, 1), 1);
    x.undo();
    due("unlearnt", x.taken(1, 2, NONE), 0);
  }

  private static void send() {
    says("1 TAKEN with a soul, 2 CHEATED, 0 not TAKEN");
    FirstOver x = Checks.of("trait s; trait t; being p 10 t; being q 20; way g 3 gives s; way n 4 gives t;"
        + "bridge b 3 0 = t; bridge c 3 0 = t;");
    due("a soul that is given", x.send(0, 0, 0), 1);
    due("LOSS and COST", x.count(5), 13);
    due("STONES", x.bridge(0, 0), 3);
    x.undo();
    due("not TAKEN", x.send(0, 1, 0), 0);
    due("COST", x.count(5), 3);
    due("CHEATED by a WAY", x.send(0, 1, 1), 2);
    due("LOSS and COST", x.count(5), 27);
    due("the same set", x.send(1, 0, NONE), 0);
    due("COST of none", x.count(5), 27);
    due("the same set with a soul", x.send(1, 0, 0), 1);
    due("LOSS and COST", x.count(5), 40);
    due("CHEATED once", x.count(10), 1);
    says("a soul that is dropped");
    FirstOver y = Checks.of("trait s; being p 1 s; way d 1 drops s; bridge b 3 0 = not s;");
    due("not TAKEN with it", y.send(0, 0, NONE), 0);
    due("CHEATED without", y.send(0, 0, 0), 2);
    says("the BRIDGE FALLEN by years");
    FirstOver z = Checks.of("trait s; being p 1 s; being q 1 s; bridge b 1 0 = s;");
    due("TAKEN", z.send(0, 0, NONE), 1);
    due("years", z.years(1), 1);
    due("FALLEN", z.send(0, 1, NONE), -2);
  }

  private static void openOrFallen() {
    says("(the BRIDGE OPEN or not): what is asked of a BRIDGE is told though it is OPEN, FALLEN");
    for (int phase = 0; phase <= 2; phase++) {
      FirstOver x = Checks.of("trait s; trait a; being p 1 s; being q 3 a; being r 2 s a; way w 0 drops s;"
          + "bridge b 1 5 = s or a; bridge c 9 9 = a;");
      if (phase > 0) {
        x.send(0, 0, NONE);
      }
      x.years(1);
      due("phase", x.bridge(0, 2), phase == 0 ? 0 : 2);
      if (phase == 1) {
        x.undo();
      }
      due("phase", x.bridge(0, 2), phase);
      due("LOAD", x.bridge(0, 1), 5);
      due("WEARS", x.bridge(0, 4), 1);
      due("MENDS", x.bridge(0, 5), 1);
      due("sets", x.bridge(0, 6), 3);
      due("asks", x.asks(0, 1), 3);
      due("holds", x.holds(0, 2), 1);
      due("taken", x.taken(0, 1, NONE), 0);
      due("taken", x.taken(0, 0, 0), 1);
      due("cheap", x.cheap(0, 0), phase == 0 ? 1 : 2);
      due("cheap's BEING", x.cheap(0, 1), phase == 0 ? 0 : 2);
      due("cheap's WAY", x.cheap(0, 2), 9);
      due("cheats: q twice, r by the WAY", x.cheats(0), 3);
      due("bar", x.bar(0, 0), 1);
      due("bar", x.bar(0, 1), 3);
      due("shuts", x.shuts(0, NONE), 1);
      due("shuts", x.shuts(0, 0), 1);
      due("alike", x.alike(0, 1, 0), 0);
      due("alike", x.alike(0, 1, 1), 2);
      due("went: p, q twice, r twice", x.went(0, 0), 5);
      due("sure", x.sure(0, 0), -2);
      due("ask: s 2 or 3, a 4 or 1", x.ask(0, 0), 0);
      due("stonesIn", x.stonesIn(0, 0), phase == 2 ? 0 : 1);
      due("stands", x.stands(0), phase == 1 ? 1 : -2);
      due("year", x.year(0, 0, 5), phase == 1 ? 5 : 0);
      due("all", x.all(0, 0), phase == 0 ? 0 : -3);
      due("openIn", x.openIn(0), phase == 1 ? 1 : 0);
    }
  }

  private static void mend() {
    says("MENDED: STONES then; -2, and nothing happens: not OPEN, 99");
    FirstOver x = Checks.of("trait s; being p 0 s; bridge b 1 0 = s; mends = 1;");
    due("not OPEN", x.mend(0), -2);
    x.send(0, 0, NONE);
    for (int stones = 2; stones <= 99; stones++) {
      due("mend to " + stones, x.mend(0), stones);
    }
    due("99", x.mend(0), -2);
    due("lost", x.count(5), 98);
    x.years(1);
    due("99 again", x.mend(0), 99);
    due("lost", x.count(5), 99);
    x.years(60);
    x.years(39);
    due("FALLEN", x.bridge(0, 2), 2);
    due("FALLEN", x.mend(0), -2);
  }

  private static void years() {
    says("n YEARS (0 .. 60; 0 is no thing done) go by: which it is");
    FirstOver x = new FirstOver();
    due("years(0)", x.years(0), 0);
    due("no thing done", x.undo(), false);
    due("years(60)", x.years(60), 60);
    due("years(0)", x.years(0), 60);
    due("one thing done", x.count(12), 1);
    due("years(1)", x.years(1), 61);
    due("years(61)", x.years(61), NONE);
    due("years(-1)", x.years(-1), NONE);
    due("count(4)", x.count(4), 61);
    for (int i = 0; i < 400; i++) {
      x.years(60);
    }
    due("many years", x.count(4), 24061);
    says("60 YEARS at once are as 60 times one");
    FirstOver once = Checks.of("trait s; being p 0 s; bridge b 99 0 = s; wears = stood / 20; storm 50; seed 77;");
    once.send(0, 0, NONE);
    due("stonesIn", once.stonesIn(0, 60), stonesOneByOne());
    once.years(60);
    due("STONES", once.bridge(0, 0), stonesOneByOne());
  }

  private static int stonesOneByOne() {
    FirstOver x = Checks.of("trait s; being p 0 s; bridge b 99 0 = s; wears = stood / 20; storm 50; seed 77;");
    x.send(0, 0, NONE);
    for (int i = 0; i < 60; i++) {
      x.years(1);
    }
    return x.bridge(0, 0);
  }

  private static void undo() {
    says("The last thing done (send, mend, years) is undone: true; false: there is none (the last 40 can be)");
    for (int done : new int[] {0, 1, 39, 40, 41, 79, 80, 81, 100}) {
      FirstOver x = new FirstOver();
      for (int i = 0; i < done; i++) {
        x.years(1);
      }
      int can = Math.min(40, done);
      due("count(12) of " + done, x.count(12), can);
      for (int i = 1; i <= can; i++) {
        due("undo " + i, x.undo(), true);
        due("the year", x.count(4), done - i);
        due("count(12)", x.count(12), can - i);
      }
      due("none", x.undo(), false);
      due("the year", x.count(4), done - can);
      due("years(7)", x.years(7), done - can + 7);
      due("undo", x.undo(), true);
      due("none", x.undo(), false);
    }
    says("send, mend, years, each is one thing done");
    FirstOver x = small();
    due("not TAKEN", x.send(1, 1, 1), 0);
    due("not TAKEN, without a WAY", x.send(1, 1, NONE), 0);
    due("CHEATED", x.send(0, 1, NONE), 2);
    due("mend", x.mend(0), 5);
    due("years", x.years(3), 3);
    due("count(12)", x.count(12), 5);
    due("undo years", x.undo(), true);
    due("STONES", x.bridge(0, 0), 5);
    due("stood", x.bridge(0, 3), 0);
    due("undo mend", x.undo(), true);
    due("STONES", x.bridge(0, 0), 4);
    due("lost", x.count(5), 4);
    due("undo CHEATED", x.undo(), true);
    due("STONES", x.bridge(0, 0), 5);
    due("not OPEN", x.bridge(0, 2), 0);
    due("there", x.being(1, 2), 1);
    due("not learnt", x.taken(0, 1, NONE), 0);
    due("lost", x.count(5), 1);
    due("undo not TAKEN", x.undo(), true);
    due("lost", x.count(5), 1);
    due("undo not TAKEN", x.undo(), true);
    due("lost", x.count(5), 0);
    due("none", x.undo(), false);
    says("tell, forget, hold, feed are not undone");
    x.years(1);
    x.tell(0, true);
    x.hold(0);
    Checks.put(x, "seed 5;");
    due("undo", x.undo(), true);
    due("TOLD", x.count(13), 1);
    due("held", x.count(14), 1);
    due("tape", x.count(11), 7);
    due("what was held is as it was", x.restore(0), true);
    due("the year", x.count(4), 1);
  }

  private static void shutsOfAll() {
    says("how many TRAITS (i NONE), else the i-th; -2: not by three (i NONE or not); NONE: not so many");
    FirstOver x = Checks.of(FULL);
    due("a, b, g", x.shuts(0, NONE), 3);
    due("a", x.shuts(0, 0), 1);
    due("b", x.shuts(0, 1), 2);
    due("g", x.shuts(0, 2), 7);
    x.send(3, 1, NONE);
    due("a, g", x.shuts(0, NONE), 2);
    due("a", x.shuts(0, 0), 1);
    due("g", x.shuts(0, 1), 7);
    due("not so many", x.shuts(0, 2), NONE);
  }

  private static void tellAndForget() {
    says("It is TOLD: its number; NONE, and nothing happens: 20 are there, no such TRAIT");
    FirstOver x = small();
    due("forget() of none", x.forget(), 0);
    for (int round = 0; round < 2; round++) {
      for (int i = 0; i < 20; i++) {
        due("tell", x.tell(i % 3, i % 2 == 0), i);
        due("count(13)", x.count(13), i + 1);
      }
      due("20 are there", x.tell(0, true), NONE);
      due("count(13)", x.count(13), 20);
      due("went by 20", x.went(0, 20), 0);
      due("went by 21", x.went(0, 21), NONE);
      says("All that was TOLD is forgotten: how many there were.");
      due("forget()", x.forget(), 20);
      due("count(13)", x.count(13), 0);
      due("went by 0", x.went(0, 0), 9);
      due("went by 1", x.went(0, 1), NONE);
    }
  }

  private static void slots() {
    says("All that goes on (not what is TOLD, nor the tape) is held in a SLOT (0 .. 2)");
    FirstOver x = small();
    due("hold(0)", x.hold(0), true);
    x.send(0, 1, NONE);
    due("hold(1)", x.hold(1), true);
    x.mend(0);
    x.years(2);
    due("hold(2)", x.hold(2), true);
    due("holding takes nothing away from undo", x.count(12), 3);
    due("count(14)", x.count(14), 3);
    String[] held = {fateOf(0), fateOf(1), fateOf(2)};
    for (int slot : new int[] {2, 1, 0, 1, 2, 0, 0}) {
      due("restore(" + slot + ")", x.restore(slot), true);
      due("as it was held", shortly(x).equals(held[slot]), true);
      says("that stays there; nothing can be undone then");
      due("nothing can be undone", x.count(12), 0);
      due("nothing can be undone", x.undo(), false);
      x.send(1, 2, NONE);
      x.years(9);
      due("undo then", x.undo(), true);
    }
    slotsOfFour();
    says("a SLOT that holds something holds what is held last");
    x.restore(1);
    due("hold(0)", x.hold(0), true);
    due("count(14)", x.count(14), 3);
    x.restore(2);
    x.restore(0);
    due("as held last", shortly(x).equals(held[1]), true);
    says("false, and nothing happens: nothing is held");
    FirstOver y = small();
    y.hold(1);
    y.years(1);
    for (int slot : new int[] {0, 2, 3, -1}) {
      due("restore(" + slot + ")", y.restore(slot), false);
      due("the year", y.count(4), 1);
      due("undo can be", y.count(12), 1);
    }
    says("what is TOLD and the tape are not held");
    y.tell(0, true);
    Checks.put(y, "x");
    due("restore(1)", y.restore(1), true);
    due("TOLD", y.count(13), 1);
    due("tape", y.count(11), 1);
  }

  /** The last BRIDGE and the sets that were learnt are undone and held as all else. */
  private static void slotsOfFour() {
    says("All that goes on is held, is undone: of each BRIDGE, of each set");
    FirstOver x = Checks.of("trait s; trait a; trait b; being p 1 a; being q 1 b; being r 1 a b; being u 1; being v 1 s;"
        + "bridge c 9 0 = s or not s; bridge d 9 0 = s or not s; bridge e 9 0 = s or not s; bridge f 9 0 = s or not s;");
    due("CHEATED by p", x.send(3, 0, NONE), 2);
    x.mend(3);
    x.years(2);
    x.hold(0);
    due("STONES", x.bridge(3, 0), 7);
    due("undo", x.undo(), true);
    due("STONES", x.bridge(3, 0), 9);
    due("stood", x.bridge(3, 3), 0);
    due("undo", x.undo(), true);
    due("STONES", x.bridge(3, 0), 8);
    due("undo", x.undo(), true);
    due("not OPEN", x.bridge(3, 2), 0);
    due("STONES", x.bridge(3, 0), 9);
    due("CHEATED by q", x.send(3, 1, NONE), 2);
    due("q's set is learnt", x.taken(0, 1, NONE), 2);
    due("p's is not", x.taken(0, 0, NONE), 0);
    due("restore(0)", x.restore(0), true);
    due("p's set is learnt", x.taken(0, 0, NONE), 2);
    due("q's is not", x.taken(0, 1, NONE), 0);
    due("OPEN", x.bridge(3, 2), 1);
    due("stood", x.bridge(3, 3), 2);
    due("STONES", x.bridge(3, 0), 7);
    for (int bridge = 0; bridge < 3; bridge++) {
      due("CHEATED", x.send(bridge, bridge + 1, NONE), 2);
    }
    due("four are learnt", x.count(9), 4);
    x.hold(1);
    due("restore(0)", x.restore(0), true);
    due("with a soul", x.send(0, 4, NONE), 1);
    due("restore(1)", x.restore(1), true);
    for (int being = 0; being < 4; being++) {
      due("each set is learnt", x.taken(0, being, NONE), 2);
    }
    due("with a soul", x.taken(0, 4, NONE), 0);
    x.years(60);
    due("all FALLEN", x.count(7), 15);
    due("undo", x.undo(), true);
    due("all OPEN", x.count(6), 15);
    due("restore(0)", x.restore(0), true);
    due("the last OPEN", x.count(6), 8);
  }

  private static String fateOf(int steps) {
    FirstOver x = small();
    for (int slot = 0; slot < 3; slot++) {
      x.hold(slot);
    }
    if (steps > 0) {
      x.send(0, 1, NONE);
    }
    if (steps > 1) {
      x.mend(0);
      x.years(2);
    }
    x.hold(0);
    x.restore(0);
    return shortly(x);
  }

  private static void counts() {
    says("count: 0 .. 15, NONE for others");
    FirstOver x = Checks.of(FULL);
    int[] ahead = {8, 7, 4, 4, 0, 0, 0, 0, 127, 0, 0, 0, 0, 0, 0};
    for (int what = 0; what < ahead.length; what++) {
      due("count(" + what + ")", x.count(what), ahead[what]);
    }
    x.send(0, 0, NONE);
    x.send(1, 1, NONE);
    x.send(2, 2, NONE);
    x.send(3, 6, NONE);
    x.tell(0, true);
    x.hold(2);
    Checks.put(x, "abc");
    int[] then = {8, 7, 4, 4, 0, 105, 11, 4, 56, 3, 3, 3, 4, 1, 1};
    for (int what = 0; what < then.length; what++) {
      due("count(" + what + ")", x.count(what), then[what]);
    }
    x.years(60);
    x.years(60);
    due("OPEN ones", x.count(6), 0);
    due("FALLEN ones", x.count(7), 15);
    due("the year", x.count(4), 120);
    due("count(16)", x.count(16), NONE);
    due("count(-1)", x.count(-1), NONE);
  }
}
