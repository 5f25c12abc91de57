/** For each promise answers that were worked out by hand from the document. */
public final class PromisesTest {
  private static final Checks CHECKS = new Checks("PromisesTest");

  /** BEINGS man {soul} 40, cat {fur} 6, dog {fur tail} 9; WAYS none, tie, shave. */
  private static final String TOWN =
      "trait soul; trait fur; trait tail;"
          + "being man 40 soul; being cat 6 fur; being dog 9 fur tail;"
          + "way tie 2 gives tail; way shave 3 drops fur;"
          + "bridge old 3 12 = soul or tail; bridge new 9 4 = not tail;";

  private static void due(String what, long got, long want) {
    CHECKS.due(what, got, want);
  }

  private static void due(String what, boolean got, boolean want) {
    CHECKS.due(what, got, want);
  }

  public static void main(String[] args) {
    newObject();
    tape();
    told();
    clauses();
    laws();
    wrap();
    send();
    learning();
    mend();
    years();
    storms();
    undo();
    cheapAndCheats();
    all();
    barAndShuts();
    standsAndMendFirst();
    alike();
    ahead();
    chances();
    went();
    slots();
    counts();
    CHECKS.end();
  }

  private static void newObject() {
    FirstOver x = new FirstOver();
    for (int what = 0; what < 16; what++) {
      due("new count(" + what + ")", x.count(what), 0);
    }
    due("place()", x.place(), -1);
    due("all(-1, 77)", x.all(-1, 77), 0);
    due("openIn(60)", x.openIn(60), 0);
    due("mendFirst(0)", x.mendFirst(0), -2);
    due("hold(0)", x.hold(0), true);
    due("years(60)", x.years(60), 60);
    due("restore(0)", x.restore(0), true);
    due("count(4)", x.count(4), 0);
  }

  private static void tape() {
    FirstOver x = new FirstOver();
    due("back(0)", x.back(0), 0);
    due("back(1)", x.back(1), -1);
    due("back(-1)", x.back(-1), -1);
    for (int i = 1; i <= 100; i++) {
      due("feed " + i, x.feed(i, i, i, i, i), 20 * i);
    }
    due("feed 101", x.feed(0, 0, 0, 0, 0), -1);
    due("count(11)", x.count(11), 2000);
    due("back(19)", x.back(19), 1981);
    due("feed again", x.feed(0, 0, 0, 0, 0), -1);
    due("back(1)", x.back(1), 1980);
    due("feed again", x.feed(0, 0, 0, 0, 0), 2000);
    due("back(2001)", x.back(2001), -1);
    due("back(-2147483648)", x.back(Integer.MIN_VALUE), -1);
    due("back(2147483647)", x.back(Integer.MAX_VALUE), -1);
    due("back(2000)", x.back(2000), 0);
    Checks.put(x, "trait ab; seed 77;");
    due("count(11)", x.count(11), 18);
    due("read()", x.read(), 0);
    due("count(0)", x.count(0), 1);
    x.feed(Checks.word("trai", 0), Checks.word("t a;", 0), Checks.word("    ", 0), -1, -1);
    due("read() of bytes 255", x.read(), 1);
    due("place()", x.place(), 12);
  }

  private static void told() {
    FirstOver x = Checks.of(TOWN);
    due("being(0, 0)", x.being(0, 0), 40);
    due("being(2, 1)", x.being(2, 1), 6);
    due("being(2, 2)", x.being(2, 2), 1);
    due("being(3, 0)", x.being(3, 0), -1);
    due("being(-1, 0)", x.being(-1, 0), -1);
    due("being(0, 3)", x.being(0, 3), -1);
    due("being(0, -1)", x.being(0, -1), -1);
    due("set(1, -1)", x.set(1, -1), 2);
    due("set(1, 0)", x.set(1, 0), 6);
    due("set(2, 0)", x.set(2, 0), 6);
    due("set(2, 1)", x.set(2, 1), 4);
    due("set(2, 2)", x.set(2, 2), -1);
    due("set(2, -2)", x.set(2, -2), -1);
    due("set(3, -1)", x.set(3, -1), -1);
    due("way(0, 0)", x.way(0, 0), 2);
    due("way(0, 1)", x.way(0, 1), 4);
    due("way(0, 2)", x.way(0, 2), 0);
    due("way(1, 2)", x.way(1, 2), 2);
    due("way(2, 0)", x.way(2, 0), -1);
    due("way(-1, 0)", x.way(-1, 0), -1);
    due("way(0, 3)", x.way(0, 3), -1);
    due("bridge(0, 0)", x.bridge(0, 0), 3);
    due("bridge(0, 1)", x.bridge(0, 1), 12);
    due("bridge(0, 2)", x.bridge(0, 2), 0);
    due("bridge(0, 3)", x.bridge(0, 3), 0);
    due("bridge(0, 4)", x.bridge(0, 4), 1);
    due("bridge(0, 5)", x.bridge(0, 5), 1);
    due("bridge(0, 6)", x.bridge(0, 6), 6);
    due("bridge(1, 6)", x.bridge(1, 6), 4);
    due("bridge(0, 7)", x.bridge(0, 7), -1);
    due("bridge(0, -1)", x.bridge(0, -1), -1);
    due("bridge(2, 0)", x.bridge(2, 0), -1);
    due("bridge(-1, 0)", x.bridge(-1, 0), -1);
    due("asks(0, 0)", x.asks(0, 0), 40);
    due("asks(2, 0)", x.asks(2, 0), -1);
    due("asks(0, 3)", x.asks(0, 3), -1);
    due("asks(0, -1)", x.asks(0, -1), -1);
    FirstOver y = Checks.of("trait a; way w 1 gives a drops a gives a; way v 1 drops a gives a drops a;"
        + "trait b; being p 3 a b a; being q 4;");
    due("way(0, 1)", y.way(0, 1), 1);
    due("way(0, 2)", y.way(0, 2), 0);
    due("way(1, 1)", y.way(1, 1), 0);
    due("way(1, 2)", y.way(1, 2), 1);
    due("being(0, 1)", y.being(0, 1), 3);
    due("being(1, 1)", y.being(1, 1), 0);
  }

  private static void clauses() {
    FirstOver x =
        Checks.of(
            "trait a; trait b; trait c; bridge p 1 0 = a or b and c; bridge q 1 0 = (a or b) and c;"
                + "bridge r 1 0 = not a and b or c; bridge s 1 0 = not (a and not not b); trait d;");
    int[] first = {0, 1, 0, 1, 0, 1, 1, 1};
    int[] second = {0, 0, 0, 0, 0, 1, 1, 1};
    int[] third = {0, 0, 1, 0, 1, 1, 1, 1};
    int[] fourth = {1, 1, 1, 0, 1, 1, 1, 0};
    for (int set = 0; set < 16; set++) {
      due("holds(0, " + set + ")", x.holds(0, set), first[set & 7]);
      due("holds(1, " + set + ")", x.holds(1, set), second[set & 7]);
      due("holds(2, " + set + ")", x.holds(2, set), third[set & 7]);
      due("holds(3, " + set + ")", x.holds(3, set), fourth[set & 7]);
    }
    due("holds(0, 16)", x.holds(0, 16), -1);
    due("holds(0, -1)", x.holds(0, -1), -1);
    due("holds(4, 0)", x.holds(4, 0), -1);
    due("holds(-1, 0)", x.holds(-1, 0), -1);
    due("bridge(0, 6)", x.bridge(0, 6), 10);
    FirstOver y =
        Checks.of(
            "trait a; trait b; trait c; trait d; trait e; trait f; trait g; trait h;"
                + "bridge p 1 0 = h and not g; bridge q 1 0 = g or a and f; bridge r 1 0 = not h;");
    due("eight: bridge(0, 6)", y.bridge(0, 6), 64);
    due("eight: bridge(1, 6)", y.bridge(1, 6), 160);
    due("eight: holds(0, 128)", y.holds(0, 128), 1);
    due("eight: holds(0, 192)", y.holds(0, 192), 0);
    due("eight: holds(1, 255)", y.holds(1, 255), 1);
    due("eight: holds(1, 33)", y.holds(1, 33), 1);
    due("eight: holds(1, 32)", y.holds(1, 32), 0);
    due("eight: holds(2, 127)", y.holds(2, 127), 1);
    due("eight: holds(2, 128)", y.holds(2, 128), 0);
    due("eight: holds(2, 256)", y.holds(2, 256), -1);
  }

  private static FirstOver withLaw(String law) {
    return Checks.of("trait s; being p 7 s; being q 30; bridge b 20 13 = s; bridge c 8 5 = s;" + law);
  }

  private static void wears(String law, int want) {
    due("wears = " + law, withLaw("wears = " + law + ";").bridge(1, 4), want);
  }

  private static void mends(String law, int want) {
    due("mends = " + law, withLaw("mends = " + law + ";").bridge(1, 5), want);
  }

  private static void laws() {
    wears("10", 9);
    wears("0 - 1", 0);
    wears("stones", 8);
    wears("load", 5);
    wears("which", 1);
    wears("year", 0);
    wears("loss + many", 0);
    wears("open + learnt + stood", 0);
    wears("2 + 3 * 2", 8);
    wears("(2 + 1) * 2", 6);
    wears("9 - 3 - 2", 4);
    wears("16 / 4 / 2", 2);
    wears("7 / 2 * 2", 6);
    wears("5 + (0 - 7) / 2", 2);
    wears("if stones < 9 then 3 else 4", 3);
    wears("if stones < 8 then 3 else 4", 4);
    wears("if 2 < 1 then 1 else if 1 < 2 then 2 else 3", 2);
    wears("if 1 < 2 then 1 else if 1 < 2 then 2 else 3", 1);
    wears("1 / 0", 0);
    wears("5 + 0 * (1 / year)", 0);
    wears("if 1 < 2 then 4 else 1 / 0", 4);
    wears("if 2 < 1 then 1 / 0 else 4", 4);
    wears("if 1 / 0 < 1 then 4 else 5", 0);
    wears("if 1 < 1 / 0 then 4 else 5", 0);
    wears("if 2 < 1 then 4 else if 1 / 0 < 1 then 6 else 7", 0);
    wears("if 1 < 2 then 5 else if 1 / 0 < 1 then 6 else 7", 5);
    mends("100", 99);
    mends("stones * load", 40);
    mends("0 - 5", 0);
    FirstOver x = withLaw("asks = loss * 2 + many * 10 + which; asks = loss * 2 + many * 20 + which;");
    due("the last law counts", x.asks(1, 0), 35);
    due("asks(0, 1)", x.asks(0, 1), 60);
    due("asks held", withLaw("asks = loss * loss;").asks(0, 1), 99);
    due("asks held below", withLaw("asks = 0 - loss;").asks(0, 1), 0);
    FirstOver y = withLaw("wears = year + stood * 2 + open * 3; mends = learnt * 10 + loss + many;");
    due("wears ahead", y.bridge(0, 4), 0);
    y.send(0, 0, -1);
    due("wears of one open", y.bridge(1, 4), 3);
    y.years(1);
    due("wears then", y.bridge(0, 4), 6);
    due("wears of the other", y.bridge(1, 4), 4);
    due("mends", y.bridge(0, 5), 0);
  }

  private static void wrap() {
    wears("9999 * 9999 * 9999 * 9999", 9);
    // 65536 * 65536 is 0 in 32 bits.
    wears("(4096 * 16) * (4096 * 16) + 3", 3);
    // 46341 * 46341 is -2147479015 in 32 bits.
    wears("(9268 * 5 + 1) * (9268 * 5 + 1)", 0);
    wears("if (9268 * 5 + 1) * (9268 * 5 + 1) < 0 then 6 else 7", 6);
    // -2147483648 / -1 is -2147483648 in 32 bits.
    wears("if (4096 * 16 * 4096 * 8) / (0 - 1) < 0 then 6 else 7", 6);
  }

  private static void send() {
    FirstOver x = Checks.of(TOWN);
    due("send(2, 0, -1)", x.send(2, 0, -1), -1);
    due("send(0, 3, -1)", x.send(0, 3, -1), -1);
    due("send(0, 0, 2)", x.send(0, 0, 2), -1);
    due("send(0, 0, -2)", x.send(0, 0, -2), -1);
    due("send(-1, 0, -1)", x.send(-1, 0, -1), -1);
    due("taken(0, 1, -1)", x.taken(0, 1, -1), 1);
    due("taken(0, 1, 0)", x.taken(0, 1, 0), 0);
    due("taken(0, 3, 0)", x.taken(0, 3, 0), -1);
    due("taken(2, 0, 0)", x.taken(2, 0, 0), -1);
    due("taken(0, 0, 2)", x.taken(0, 0, 2), -1);
    due("not taken", x.send(0, 1, 1), 0);
    due("the cost is lost", x.count(5), 3);
    due("nobody is gone", x.count(8), 7);
    due("no bridge is open", x.count(6), 0);
    due("not taken, no way", x.send(0, 1, -1), 0);
    due("lost", x.count(5), 3);
    due("both can be undone", x.count(12), 2);
    due("cheated", x.send(0, 1, 0), 2);
    due("lost", x.count(5), 11);
    due("stones", x.bridge(0, 0), 2);
    due("open", x.bridge(0, 2), 1);
    due("gone", x.being(1, 2), 0);
    due("times cheated", x.count(10), 1);
    due("learnt", x.count(9), 1);
    due("the bridge is open", x.send(0, 0, -1), -2);
    due("the being is gone", x.send(1, 1, -1), -2);
    due("nothing happened", x.count(12), 3);
    due("a learnt set (dog tied)", x.taken(0, 2, 0), 2);
    due("where no clause holds", x.taken(1, 2, 0), 1);
    due("with a soul", x.send(1, 0, -1), 1);
    due("no stone is out", x.bridge(1, 0), 9);
    due("lost", x.count(5), 51);
    FirstOver y = Checks.of("trait s; trait t; being p 5 t; being q 6 t; being r 1 s; bridge b 1 0 = t; bridge c 1 0 = t;");
    due("cheated", y.send(0, 0, -1), 2);
    due("fallen", y.bridge(0, 2), 2);
    due("fallen bits", y.count(7), 1);
    due("open bits", y.count(6), 0);
    due("fallen, no sending", y.send(0, 2, -1), -2);
    due("fallen, no mending", y.mend(0), -2);
    due("learnt at all bridges", y.send(1, 1, -1), 0);
    due("there still", y.being(1, 2), 1);
  }

  private static void learning() {
    // Each BRIDGE is sent over once at most, so no more than four sets are ever learnt.
    FirstOver x =
        Checks.of(
            "trait s; trait a; trait b; being p 1 a; being q 1 b; being r 1 a b; being t 1; being u 1 a;"
                + "bridge c 9 0 = not s; bridge d 9 0 = not s; bridge e 9 0 = not s; bridge f 9 0 = not s;");
    due("cheats(0)", x.cheats(0), 5);
    due("first", x.send(0, 0, -1), 2);
    due("cheats(1)", x.cheats(1), 3);
    due("the same set", x.send(1, 4, -1), 0);
    due("second", x.send(1, 1, -1), 2);
    due("third", x.send(2, 2, -1), 2);
    due("fourth", x.send(3, 3, -1), 2);
    due("learnt", x.count(9), 4);
    due("cheated", x.count(10), 4);
    due("stones", x.bridge(3, 0), 8);
  }

  private static void mend() {
    FirstOver x =
        Checks.of("trait s; being p 5 s; bridge b 97 0 = s; bridge c 3 0 = s; mends = stones - 90;");
    due("not open", x.mend(0), -2);
    due("no such", x.mend(2), -1);
    due("no such", x.mend(-1), -1);
    x.send(0, 0, -1);
    due("mend", x.mend(0), 98);
    due("lost by how it was", x.count(5), 12);
    due("mend", x.mend(0), 99);
    due("lost", x.count(5), 20);
    due("99", x.mend(0), -2);
    due("nothing happened", x.count(5), 20);
    due("undone can be", x.count(12), 3);
  }

  private static void years() {
    FirstOver x =
        Checks.of(
            "trait s; being p 1 s; being q 1 s; bridge b 5 0 = s; bridge c 4 0 = s; wears = open + which;");
    due("years(-1)", x.years(-1), -1);
    due("years(61)", x.years(61), -1);
    due("years(0)", x.years(0), 0);
    due("no thing done", x.count(12), 0);
    x.send(0, 0, -1);
    due("years(1)", x.years(1), 1);
    due("stones", x.bridge(0, 0), 4);
    due("not open: stones stay", x.bridge(1, 0), 4);
    due("stood", x.bridge(0, 3), 1);
    due("stood, not open", x.bridge(1, 3), 0);
    x.send(1, 1, -1);
    // By how all was: 2 and 3 less, though the second falls a year later.
    due("years(1)", x.years(1), 2);
    due("stones 0", x.bridge(0, 0), 2);
    due("stones 1", x.bridge(1, 0), 1);
    due("stood 0", x.bridge(0, 3), 2);
    due("stood 1", x.bridge(1, 3), 1);
    due("years(1)", x.years(1), 3);
    due("both fallen", x.count(7), 3);
    due("none open", x.count(6), 0);
    due("stones not below 0", x.bridge(1, 0), 0);
    due("stood until it fell", x.bridge(1, 3), 2);
    due("years(60)", x.years(60), 63);
    due("stood stays", x.bridge(1, 3), 2);
    due("count(4)", x.count(4), 63);
  }

  /** LOT 100, written with longs. */
  private static long lot(long seed, long which) {
    long mask = 0xFFFFFFFFL;
    long h = seed;
    for (long by : new long[] {109, which}) {
      h = ((h ^ by) * 1103515245L + 12345L) & mask;
      h = h ^ (h >> 15);
    }
    return (h >> 1) % 100;
  }

  private static void storms() {
    for (int seed : new int[] {0, 1, 77, 9999}) {
      FirstOver x = Checks.of("trait s; being p 1 s; bridge b 99 0 = s; wears = 0; storm 37; seed " + seed + ";");
      x.send(0, 0, -1);
      int stones = 99;
      for (int year = 0; year < 40; year++) {
        int storm = lot(seed, 4L * year) < 37 ? 1 : 0;
        due("storm in " + year, x.count(15), storm);
        stones -= storm;
        x.years(1);
        due("stones behind " + year, x.bridge(0, 0), stones);
      }
      while (x.undo()) {
        // Back to the year 1: the last 40 things can be undone.
      }
      due("stonesIn(0, 40)", x.stonesIn(0, 40), stones);
    }
    FirstOver all = Checks.of("storm 100;");
    due("always", all.count(15), 1);
    FirstOver last = Checks.of("storm 100; storm 0; seed 5;");
    due("never", last.count(15), 0);
  }

  private static void undo() {
    FirstOver x = Checks.of(TOWN);
    due("nothing yet", x.undo(), false);
    x.send(0, 1, 0);
    x.mend(0);
    x.years(2);
    due("open no more", x.bridge(0, 0), 1);
    due("three", x.count(12), 3);
    due("undo years", x.undo(), true);
    due("year", x.count(4), 0);
    due("stones", x.bridge(0, 0), 3);
    due("stood", x.bridge(0, 3), 0);
    due("undo mend", x.undo(), true);
    due("stones", x.bridge(0, 0), 2);
    due("lost", x.count(5), 8);
    x.tell(1, true);
    due("undo send", x.undo(), true);
    due("lost", x.count(5), 0);
    due("there", x.count(8), 7);
    due("learnt", x.count(9), 0);
    due("cheated", x.count(10), 0);
    due("open", x.count(6), 0);
    due("told stays", x.count(13), 1);
    due("no more", x.undo(), false);
    for (int i = 1; i <= 45; i++) {
      x.years(1);
      due("can be undone", x.count(12), Math.min(40, i));
    }
    for (int i = 0; i < 40; i++) {
      due("undo " + i, x.undo(), true);
    }
    due("the last 40", x.undo(), false);
    due("year", x.count(4), 5);
  }

  private static void cheapAndCheats() {
    FirstOver x = Checks.of(TOWN);
    due("cheap(0, 0)", x.cheap(0, 0), 8);
    due("cheap(0, 1)", x.cheap(0, 1), 1);
    due("cheap(0, 2)", x.cheap(0, 2), 0);
    due("cheap(1, 0)", x.cheap(1, 0), 6);
    due("cheap(1, 2)", x.cheap(1, 2), 9);
    due("cheap(1, 3)", x.cheap(1, 3), -1);
    due("cheap(1, -1)", x.cheap(1, -1), -1);
    due("cheap(2, 0)", x.cheap(2, 0), -1);
    // Tied cat; dog, dog tied, dog shaved.
    due("cheats(0)", x.cheats(0), 4);
    // Cat, cat shaved.
    due("cheats(1)", x.cheats(1), 2);
    due("cheats(2)", x.cheats(2), -1);
    due("cheats(-1)", x.cheats(-1), -1);
    x.send(0, 1, 0);
    due("only shaved dog then", x.cheats(0), 1);
    due("cheap though open", x.cheap(0, 0), 12);
    due("cheap's being", x.cheap(0, 1), 2);
    due("cheap's way", x.cheap(0, 2), 1);
    due("only the man", x.cheap(1, 0), 40);
    x.send(1, 0, -1);
    due("nobody", x.cheap(1, 0), -2);
    due("nobody", x.cheap(1, 1), -2);
    due("no cheats", x.cheats(1), 0);
    FirstOver y = Checks.of("trait s; being p 3; being q 3; way v 0; way w 0 gives s; bridge b 5 0 = not s; bridge c 5 0 = s;");
    due("alike: the first being", y.cheap(0, 1), 0);
    due("alike: none first", y.cheap(0, 2), 9);
    due("the way that gives", y.cheap(1, 2), 1);
    FirstOver z = Checks.of("trait s; being p 5; being q 4; way v 0; way w 0; bridge b 5 0 = not s;");
    due("least, the second", z.cheap(0, 1), 1);
  }

  private static void all() {
    FirstOver x = Checks.of(TOWN);
    // Old: cat tied 8 or dog 9; new: cat 6, cat shaved 9, man 40.
    due("all(-1, 0)", x.all(-1, 0), 15);
    due("all(-1, -9)", x.all(-1, -9), 15);
    due("all(0, 0)", x.all(0, 0), 2);
    due("all(0, 1)", x.all(0, 1), 9);
    due("all(1, 0)", x.all(1, 0), 1);
    due("all(1, 1)", x.all(1, 1), 9);
    due("all(1, 2)", x.all(1, 2), -1);
    due("all(1, -1)", x.all(1, -1), -1);
    due("all(2, 0)", x.all(2, 0), -1);
    due("all(-2, 0)", x.all(-2, 0), -1);
    x.send(0, 1, -1);
    x.send(1, 1, -1);
    due("open", x.all(1, 0), -3);
    due("open, no such what", x.all(1, 2), -1);
    due("for the other", x.all(-1, 0), 9);
    // What is learnt by then: both take the same set once.
    FirstOver y =
        Checks.of(
            "trait s; trait t; being p 1 t; being q 1 t; being r 50 s; way w 9 gives s;"
                + "bridge b 5 0 = t or s; bridge c 5 0 = t or s;");
    due("all learns", y.all(-1, 0), 11);
    due("first none", y.all(0, 0), 0);
    due("first none", y.all(0, 1), 9);
    due("second", y.all(1, 0), 1);
    due("second by the way", y.all(1, 1), 0);
    FirstOver z = Checks.of("trait s; trait t; being p 1 t; bridge b 5 0 = t; bridge c 5 0 = t;");
    due("another being", z.all(-1, 0), -2);
    due("can't be", z.all(0, 0), -2);
    z.send(0, 0, -1);
    due("open is looked at first", z.all(0, 1), -3);
    due("can't be", z.all(1, 1), -2);
    FirstOver alike =
        Checks.of("trait s; being p 2 s; being q 2 s; being r 2 s; way v 0; bridge b 5 0 = s; bridge c 5 0 = s;");
    due("alike", alike.all(0, 0), 0);
    due("alike", alike.all(0, 1), 9);
    due("alike", alike.all(1, 0), 1);
    due("alike", alike.all(1, 1), 9);
  }

  private static void barAndShuts() {
    FirstOver x = Checks.of(TOWN);
    // Cheats of old: {fur tail} three times, {tail}; of new: {fur}, {}.
    due("bar(0, 0)", x.bar(0, 0), 2);
    due("bar(0, 1)", x.bar(0, 1), 4);
    due("bar(1, 0)", x.bar(1, 0), 1);
    due("bar(1, 1)", x.bar(1, 1), 1);
    due("bar(1, 2)", x.bar(1, 2), -1);
    due("bar(1, -1)", x.bar(1, -1), -1);
    due("bar(2, 0)", x.bar(2, 0), -1);
    due("shuts(0, -1)", x.shuts(0, -1), 1);
    due("shuts(0, 0)", x.shuts(0, 0), 2);
    due("shuts(0, 1)", x.shuts(0, 1), -1);
    due("shuts(0, 3)", x.shuts(0, 3), -1);
    due("shuts(0, -2)", x.shuts(0, -2), -1);
    due("the empty set", x.shuts(1, -1), -2);
    due("the empty set", x.shuts(1, 2), -2);
    due("no such i", x.shuts(1, 3), -1);
    due("shuts(2, -1)", x.shuts(2, -1), -1);
    x.send(1, 0, -1);
    x.send(0, 1, 0);
    due("no cheat at new", x.bar(1, 0), 0);
    due("no cheat at new", x.bar(1, 1), 0);
    due("no cheat at new", x.shuts(1, -1), 0);
    due("no cheat at new", x.shuts(1, 0), -1);
    String four = "trait s; trait a; trait b; trait c; trait d; being p 1 a; being q 1 b; being r 1 c;";
    FirstOver y = Checks.of(four + "bridge e 3 0 = not s;");
    due("three", y.shuts(0, -1), 3);
    due("three: 0", y.shuts(0, 0), 1);
    due("three: 1", y.shuts(0, 1), 2);
    due("three: 2", y.shuts(0, 2), 3);
    FirstOver z = Checks.of(four + "being t 1 d; bridge e 3 0 = not s; bridge f 3 0 = a or b;");
    due("not by three", z.shuts(0, -1), -2);
    due("two", z.shuts(1, -1), 2);
    due("two: 2", z.shuts(1, 2), -1);
    FirstOver w = Checks.of(four + "being t 1 a c; being u 1 b c; bridge e 3 0 = a and c or b;");
    // Sets {b}, {a c}, {b c}: a and b, b and c; alike ones: the least first.
    due("two", w.shuts(0, -1), 2);
    due("first", w.shuts(0, 0), 1);
    due("next", w.shuts(0, 1), 2);
  }

  private static void standsAndMendFirst() {
    FirstOver x =
        Checks.of(
            "trait s; being p 1 s; being q 1 s; being r 1 s; bridge b 5 0 = s; bridge c 99 0 = s; bridge d 9 0 = s;"
                + "wears = if which < 1 then 2 else if which < 2 then 1 else 3; storm 100;");
    due("not open", x.stands(0), -2);
    due("no such", x.stands(3), -1);
    due("no such", x.stands(-1), -1);
    due("none to mend", x.mendFirst(0), -2);
    due("none to mend", x.mendFirst(1), -2);
    due("mendFirst(2)", x.mendFirst(2), -1);
    due("mendFirst(-1)", x.mendFirst(-1), -1);
    x.send(0, 0, -1);
    x.send(1, 1, -1);
    x.send(2, 2, -1);
    due("stands(0)", x.stands(0), 3);
    due("stands(1)", x.stands(1), 99);
    due("stands(2)", x.stands(2), 3);
    // 6 stones stand 3 years too; 10 stand 4; 99 are not mended.
    due("first to mend", x.mendFirst(0), 2);
    due("a year later", x.mendFirst(1), 1);
    FirstOver y = Checks.of("trait s; being p 1 s; bridge b 7 0 = s; wears = if stones < 8 then 1 else 0;");
    y.send(0, 0, -1);
    due("stands", y.stands(0), 7);
    due("first to mend", y.mendFirst(0), 0);
    due("for good", y.mendFirst(1), -3);
    y.mend(0);
    due("for good", y.stands(0), -2);
    due("none is later", y.mendFirst(0), -2);
    FirstOver z = Checks.of("trait s; being p 1 s; bridge b 1 0 = s; wears = if year < 199 then 0 else 1;");
    z.send(0, 0, -1);
    due("stands 200", z.stands(0), 200);
    due("later than 200", z.mendFirst(1), -3);
    FirstOver w = Checks.of("trait s; being p 1 s; bridge b 1 0 = s; wears = if year < 200 then 0 else 1;");
    w.send(0, 0, -1);
    due("behind 201", w.stands(0), -2);
    w.years(1);
    due("behind 200", w.stands(0), 200);
  }

  private static void alike() {
    FirstOver x =
        Checks.of(
            "trait a; trait b; bridge p 1 0 = not (a or b); bridge q 1 0 = not a and not b;"
                + "bridge r 1 0 = not a; bridge s 1 0 = a; trait c;");
    due("alike(0, 1, 0)", x.alike(0, 1, 0), 1);
    due("alike(0, 1, 1)", x.alike(0, 1, 1), 2);
    due("alike(0, 2, 0)", x.alike(0, 2, 0), 0);
    due("alike(2, 0, 0)", x.alike(2, 0, 0), 0);
    due("alike(2, 0, 1)", x.alike(2, 0, 1), 2);
    due("alike(2, 3, 1)", x.alike(2, 3, 1), 0);
    due("alike(2, 3, 0)", x.alike(2, 3, 0), 0);
    due("alike(3, 3, 1)", x.alike(3, 3, 1), 4);
    due("alike(3, 4, 1)", x.alike(3, 4, 1), -1);
    due("alike(-1, 3, 1)", x.alike(-1, 3, 1), -1);
    due("alike(3, 3, 2)", x.alike(3, 3, 2), -1);
    due("alike(3, 3, -1)", x.alike(3, 3, -1), -1);
  }

  private static void ahead() {
    FirstOver x =
        Checks.of("trait s; being p 1 s; being q 1 s; bridge b 6 0 = s; bridge c 3 0 = s; storm 100;");
    x.send(0, 0, -1);
    due("stonesIn(0, 0)", x.stonesIn(0, 0), 6);
    due("stonesIn(0, 2)", x.stonesIn(0, 2), 2);
    due("stonesIn(0, 3)", x.stonesIn(0, 3), 0);
    due("stonesIn(0, 60)", x.stonesIn(0, 60), 0);
    due("stonesIn(0, 61)", x.stonesIn(0, 61), -1);
    due("stonesIn(0, -1)", x.stonesIn(0, -1), -1);
    due("stonesIn(1, 9)", x.stonesIn(1, 9), 3);
    due("stonesIn(2, 9)", x.stonesIn(2, 9), -1);
    due("openIn(0)", x.openIn(0), 1);
    due("openIn(2)", x.openIn(2), 1);
    due("openIn(3)", x.openIn(3), 0);
    due("openIn(61)", x.openIn(61), -1);
    due("openIn(-1)", x.openIn(-1), -1);
    due("nothing happens", x.count(4), 0);
    due("nothing happens", x.bridge(0, 0), 6);
    x.send(1, 1, -1);
    due("openIn(1)", x.openIn(1), 2);
    due("openIn(2)", x.openIn(2), 1);
  }

  private static void chances() {
    int seed = 9990;
    FirstOver x = Checks.of("trait s; being p 1 s; bridge b 3 0 = s; wears = 0; storm 40; seed " + seed + ";");
    due("not open", x.year(0, 5, 20), 0);
    due("no such s", x.year(0, 5, 21), -1);
    due("no such s", x.year(0, 5, 0), -1);
    due("no such n", x.year(0, 61, 1), -1);
    due("no such n", x.year(0, -1, 1), -1);
    due("no such bridge", x.year(1, 1, 1), -1);
    x.send(0, 0, -1);
    for (int n = 0; n <= 12; n++) {
      int open = 0;
      for (int i = 0; i < 20; i++) {
        int storms = 0;
        for (int year = 0; year < n; year++) {
          storms += lot(seed + i, 4L * year) < 40 ? 1 : 0;
        }
        open += storms < 3 ? 1 : 0;
        due("year(0, " + n + ", " + (i + 1) + ")", x.year(0, n, i + 1), open);
      }
    }
  }

  private static void went() {
    FirstOver x = Checks.of(TOWN);
    // Old: man three times (tied, shaved too), cat tied, dog three times.
    due("went(0, 0)", x.went(0, 0), 7);
    due("went(0, 1)", x.went(0, 1), -1);
    due("went(0, -1)", x.went(0, -1), -1);
    due("went(2, 0)", x.went(2, 0), -1);
    due("sure(0, 0)", x.sure(0, 0), -2);
    due("sure(2, 0)", x.sure(2, 0), -1);
    due("sure(0, 1)", x.sure(0, 1), -1);
    // Soul 3 / 4, fur 3 / 4 (cat, dog twice), tail 5 / 2.
    due("ask(0, 0)", x.ask(0, 0), 0);
    due("ask(0, 1)", x.ask(0, 1), -1);
    due("ask(2, 0)", x.ask(2, 0), -1);
    due("tell(3, true)", x.tell(3, true), -1);
    due("tell(-1, true)", x.tell(-1, true), -1);
    due("tell(0, false)", x.tell(0, false), 0);
    due("went(0, 1)", x.went(0, 1), 4);
    // Soul 0 / 4, fur 3 / 1, tail 4 / 0.
    due("ask(0, 1)", x.ask(0, 1), 1);
    due("tell(1, false)", x.tell(1, false), 1);
    due("went(0, 2)", x.went(0, 2), 1);
    due("sure(0, 2)", x.sure(0, 2), 2);
    due("sure(0, 1)", x.sure(0, 1), -2);
    due("known by less", x.went(0, 0), 7);
    due("tell(1, true)", x.tell(1, true), 2);
    due("both cannot be", x.went(0, 3), 0);
    due("none", x.sure(0, 3), -2);
    due("none is left", x.ask(0, 3), -2);
    due("forget()", x.forget(), 3);
    due("forget()", x.forget(), 0);
    due("tell(0, true)", x.tell(0, true), 0);
    due("one being, three ways", x.went(0, 1), 3);
    due("sure of the being", x.sure(0, 1), 0);
    x.send(0, 0, -1);
    due("gone or not", x.went(0, 1), 3);
    x.undo();
    x.send(0, 1, 0);
    due("learnt or not", x.went(0, 0), 7);
    for (int i = 1; i < 20; i++) {
      due("tell " + i, x.tell(0, true), i);
    }
    due("20 are there", x.tell(0, true), -1);
    due("count(13)", x.count(13), 20);
    due("went by all", x.went(0, 20), 3);
    due("went by more", x.went(0, 21), -1);
  }

  private static void slots() {
    FirstOver x = Checks.of(TOWN);
    due("hold(-1)", x.hold(-1), false);
    due("hold(3)", x.hold(3), false);
    due("restore(0)", x.restore(0), false);
    due("restore(3)", x.restore(3), false);
    due("restore(-1)", x.restore(-1), false);
    due("hold(2)", x.hold(2), true);
    due("count(14)", x.count(14), 1);
    x.send(0, 1, 0);
    x.tell(0, true);
    due("hold(0)", x.hold(0), true);
    due("hold(0)", x.hold(0), true);
    due("count(14)", x.count(14), 2);
    x.years(1);
    due("undone can be", x.count(12), 2);
    due("restore(2)", x.restore(2), true);
    due("lost", x.count(5), 0);
    due("year", x.count(4), 0);
    due("learnt", x.count(9), 0);
    due("cheated", x.count(10), 0);
    due("there", x.count(8), 7);
    due("stones", x.bridge(0, 0), 3);
    due("nothing can be undone", x.undo(), false);
    due("told stays", x.count(13), 1);
    x.years(5);
    due("restore(0)", x.restore(0), true);
    due("year", x.count(4), 0);
    due("lost", x.count(5), 8);
    due("learnt", x.taken(0, 1, 0), 2);
    due("restore(2) again", x.restore(2), true);
    due("lost", x.count(5), 0);
    due("restore(1)", x.restore(1), false);
    due("count(14)", x.count(14), 2);
    x.years(1);
    due("undo behind", x.undo(), true);
    due("no more", x.undo(), false);
    Checks.put(x, "trait");
    x.restore(0);
    due("the tape stays", x.count(11), 5);
  }

  private static void counts() {
    FirstOver x = Checks.of(TOWN + "storm 100;");
    due("count(-1)", x.count(-1), -1);
    due("count(16)", x.count(16), -1);
    due("count(0)", x.count(0), 3);
    due("count(1)", x.count(1), 3);
    due("count(2)", x.count(2), 2);
    due("count(3)", x.count(3), 2);
    due("count(8)", x.count(8), 7);
    x.send(1, 1, -1);
    due("count(6)", x.count(6), 2);
    due("count(7)", x.count(7), 0);
    due("count(8)", x.count(8), 5);
    x.years(3);
    due("count(4)", x.count(4), 3);
    due("stones", x.bridge(1, 0), 2);
    x.years(1);
    due("count(6)", x.count(6), 0);
    due("count(7)", x.count(7), 2);
    due("count(15)", x.count(15), 1);
  }
}
