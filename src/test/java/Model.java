import java.util.ArrayDeque;
import java.util.ArrayList;
import java.util.Arrays;
import java.util.Deque;
import java.util.HashMap;
import java.util.List;
import java.util.Map;
import java.util.Set;
import java.util.function.IntPredicate;
import java.util.function.ToIntFunction;

/**
 * The document once more, written as plainly as the library allows and in another way than the
 * class: a table of predictions for the grammar, trees for CLAUSES and LAWS, all choices gone
 * through. ModelTest holds the class against it.
 */
final class Model {
  private static final Set<String> WORDS =
      Set.of(
          "trait", "being", "way", "bridge", "wears", "mends", "asks", "storm", "seed", "gives",
          "drops", "or", "and", "not", "if", "then", "else", "stones", "load", "year", "stood",
          "which", "loss", "many", "open", "learnt");
  private static final Set<String> VARS =
      Set.of("stones", "load", "year", "stood", "which", "loss", "many", "open", "learnt");

  private record Token(String kind, String text, int place) {}

  private static final class DividedByZero extends RuntimeException {
    private static final long serialVersionUID = 1L;
  }

  private interface Sum {
    int of(Map<String, Integer> vars);
  }

  private record Branch(Sum one, Sum other, Sum then) {}

  private record Being(int loss, int own) {}

  private record Way(int cost, int gives, int drops) {}

  private record Bridge(int stones, int load, IntPredicate clause) {}

  private static final class Told {
    int traits = 0;
    final List<Being> beings = new ArrayList<>();
    final List<Way> ways = new ArrayList<>();
    final List<Bridge> bridges = new ArrayList<>();
    final Map<String, List<Branch>> laws = new HashMap<>();
    int storm = 0;
    int seed = 0;
  }

  private static final class State {
    int[] stones;
    int[] what;
    int[] stood;
    boolean[] gone;
    List<Integer> learnt = new ArrayList<>();
    int cheated;
    int lost;
    int year;

    State copy() {
      State c = new State();
      c.stones = stones.clone();
      c.what = what.clone();
      c.stood = stood.clone();
      c.gone = gone.clone();
      c.learnt = new ArrayList<>(learnt);
      c.cheated = cheated;
      c.lost = lost;
      c.year = year;
      return c;
    }
  }

  private final StringBuilder tape = new StringBuilder();
  private int place = -1;
  private Told t = new Told();
  private State now;
  private final List<State> done = new ArrayList<>();
  private State[] slots = new State[3];
  private final List<int[]> known = new ArrayList<>();

  Model() {
    begin();
  }

  private void begin() {
    now = new State();
    now.stones = t.bridges.stream().mapToInt(Bridge::stones).toArray();
    now.what = new int[t.bridges.size()];
    now.stood = new int[t.bridges.size()];
    now.gone = new boolean[t.beings.size()];
    done.clear();
    known.clear();
    slots = new State[3];
  }

  // ---- reading

  int feed(int... words) {
    if (tape.length() + 20 > 2000) {
      return -1;
    }
    for (int word : words) {
      for (int shift = 24; shift >= 0; shift -= 8) {
        tape.append((char) (word >> shift & 255));
      }
    }
    return tape.length();
  }

  int back(int n) {
    if (n < 0 || n > tape.length()) {
      return -1;
    }
    tape.setLength(tape.length() - n);
    return tape.length();
  }

  private static List<Token> tokens(String text) {
    List<Token> all = new ArrayList<>();
    int at = 0;
    while (at < text.length()) {
      char sign = text.charAt(at);
      int from = at;
      if ("\t\n\r ".indexOf(sign) >= 0) {
        at++;
        continue;
      }
      if (sign >= 'a' && sign <= 'z') {
        while (at < text.length() && text.charAt(at) >= 'a' && text.charAt(at) <= 'z') {
          at++;
        }
        String word = text.substring(from, at);
        String kind = word.length() > 8 ? "BAD" : WORDS.contains(word) ? word : "NAME";
        all.add(new Token(kind, word, from));
      } else if (sign >= '0' && sign <= '9') {
        while (at < text.length() && text.charAt(at) >= '0' && text.charAt(at) <= '9') {
          at++;
        }
        all.add(new Token(at - from > 4 ? "BAD" : "INT", text.substring(from, at), from));
      } else {
        at++;
        String one = text.substring(from, at);
        all.add(new Token(";=+-*/<()".contains(one) ? one : "BAD", one, from));
      }
    }
    all.add(new Token("END", "", text.length()));
    return all;
  }

  /** What a sign of the grammar becomes ahead of a token; null: nothing fits. */
  private static String[] predict(String sort, String kind) {
    switch (sort) {
      case "Text":
        return kind.equals("END") ? new String[0] : new String[] {"Tell", "Text"};
      case "Tell":
        switch (kind) {
          case "trait":
            return "trait NAME ;".split(" ");
          case "being":
            return "being NAME INT Names ;".split(" ");
          case "way":
            return "way NAME INT Gifts ;".split(" ");
          case "bridge":
            return "bridge NAME INT INT = C ;".split(" ");
          case "wears":
          case "mends":
          case "asks":
            return (kind + " = Law ;").split(" ");
          case "storm":
          case "seed":
            return (kind + " INT ;").split(" ");
          default:
            return null;
        }
      case "Names":
        return kind.equals("NAME") ? "NAME Names".split(" ") : new String[0];
      case "Gifts":
        return kind.equals("gives") || kind.equals("drops")
            ? (kind + " NAME Gifts").split(" ")
            : new String[0];
      case "C":
        return "A Ors".split(" ");
      case "Ors":
        return kind.equals("or") ? "or A Ors".split(" ") : new String[0];
      case "A":
        return "N Ands".split(" ");
      case "Ands":
        return kind.equals("and") ? "and N Ands".split(" ") : new String[0];
      case "N":
        return kind.equals("not")
            ? "not N".split(" ")
            : kind.equals("(") ? "( C )".split(" ") : new String[] {"NAME"};
      case "Law":
        return (kind.equals("if") ? "if E < E then E else Law" : "E").split(" ");
      case "E":
        return "Part Parts".split(" ");
      case "Parts":
        return kind.equals("+") || kind.equals("-")
            ? (kind + " Part Parts").split(" ")
            : new String[0];
      case "Part":
        return "Unit Units".split(" ");
      case "Units":
        return kind.equals("*") || kind.equals("/")
            ? (kind + " Unit Units").split(" ")
            : new String[0];
      case "Unit":
        return kind.equals("(")
            ? "( E )".split(" ")
            : VARS.contains(kind) ? new String[] {kind} : new String[] {"INT"};
      default:
        return null;
    }
  }

  private static boolean isSort(String symbol) {
    char first = symbol.charAt(0);
    return first >= 'A' && first <= 'Z' && !symbol.equals("NAME") && !symbol.equals("INT");
  }

  /** The place of the first token with which no text goes on, -1 without. */
  private static int syntaxFault(List<Token> tokens) {
    Deque<String> due = new ArrayDeque<>();
    due.push("Text");
    int at = 0;
    while (!due.isEmpty()) {
      String symbol = due.pop();
      Token token = tokens.get(at);
      if (isSort(symbol)) {
        String[] parts = predict(symbol, token.kind());
        if (parts == null) {
          return token.place();
        }
        for (int i = parts.length - 1; i >= 0; i--) {
          due.push(parts[i]);
        }
      } else if (symbol.equals(token.kind())) {
        at++;
      } else {
        return token.place();
      }
    }
    return -1;
  }

  private static int roomFault(List<Token> tokens) {
    Map<String, Integer> room = Map.of("trait", 8, "being", 7, "way", 4, "bridge", 4);
    Map<String, Integer> seen = new HashMap<>();
    int ifs = 0;
    int open = 0;
    int nots = 0;
    for (int i = 0; i < tokens.size() - 1; i++) {
      String kind = tokens.get(i).kind();
      nots = kind.equals("not") ? nots + 1 : 0;
      ifs = kind.equals(";") ? 0 : kind.equals("if") ? ifs + 1 : ifs;
      open = kind.equals(";") ? 0 : kind.equals("(") ? open + 1 : kind.equals(")") ? open - 1 : open;
      int many = seen.merge(kind, 1, Integer::sum);
      boolean isTooMuch = room.containsKey(kind) && many > room.get(kind);
      if (i >= 400 || isTooMuch || nots > 6 || ifs > 4 || open > 6 && kind.equals("(")) {
        return tokens.get(i).place();
      }
    }
    return -1;
  }

  int read() {
    String text = tape.toString();
    tape.setLength(0);
    List<Token> tokens = tokens(text);
    int syntax = syntaxFault(tokens);
    int room = roomFault(tokens);
    if (syntax >= 0 || room >= 0) {
      boolean isRoom = syntax < 0 || room >= 0 && room < syntax;
      place = isRoom ? room : syntax;
      return isRoom ? 2 : 1;
    }
    Building building = new Building(tokens);
    building.build();
    place = building.faultPlace;
    if (building.fault == 0) {
      t = building.told;
      begin();
    }
    return building.fault;
  }

  int place() {
    return place;
  }

  /** Builds what a text without faults of SYNTAX and ROOM tells. */
  private static final class Building {
    final Told told = new Told();
    int fault = 0;
    int faultPlace = -1;
    private final List<Token> tokens;
    private int at = 0;
    private final List<String> names = new ArrayList<>();
    private final List<String> traits = new ArrayList<>();

    Building(List<Token> tokens) {
      this.tokens = tokens;
    }

    private Token next() {
      return tokens.get(at++);
    }

    private boolean is(String kind) {
      return tokens.get(at).kind().equals(kind);
    }

    private void note(int what, Token token) {
      if (fault == 0) {
        fault = what;
        faultPlace = token.place();
      }
    }

    private String newName() {
      Token token = next();
      if (names.contains(token.text())) {
        note(3, token);
      }
      names.add(token.text());
      return token.text();
    }

    private int trait() {
      Token token = next();
      int trait = traits.indexOf(token.text());
      if (trait < 0) {
        note(4, token);
      }
      return Math.max(0, trait);
    }

    private int number(int least, int most) {
      Token token = next();
      int value = Integer.parseInt(token.text());
      if (value < least || value > most) {
        note(5, token);
      }
      return value;
    }

    void build() {
      while (!is("END")) {
        String sort = next().kind();
        switch (sort) {
          case "trait":
            traits.add(newName());
            told.traits++;
            break;
          case "being":
            newName();
            int loss = number(0, 99);
            int own = 0;
            while (is("NAME")) {
              own |= 1 << trait();
            }
            told.beings.add(new Being(loss, own));
            break;
          case "way":
            newName();
            int cost = number(0, 99);
            int[] last = new int[8];
            while (is("gives") || is("drops")) {
              int change = next().kind().equals("gives") ? 1 : 2;
              last[trait()] = change;
            }
            told.ways.add(new Way(cost, bits(last, 1), bits(last, 2)));
            break;
          case "bridge":
            newName();
            int stones = number(1, 99);
            int load = number(0, 99);
            next();
            told.bridges.add(new Bridge(stones, load, either()));
            break;
          case "storm":
            told.storm = number(0, 100);
            break;
          case "seed":
            told.seed = number(0, 9999);
            break;
          default:
            next();
            told.laws.put(sort, law());
            break;
        }
        next();
      }
    }

    private static int bits(int[] row, int wanted) {
      int bits = 0;
      for (int i = 0; i < row.length; i++) {
        bits |= row[i] == wanted ? 1 << i : 0;
      }
      return bits;
    }

    private IntPredicate either() {
      IntPredicate left = both();
      while (is("or")) {
        next();
        left = left.or(both());
      }
      return left;
    }

    private IntPredicate both() {
      IntPredicate left = not();
      while (is("and")) {
        next();
        left = left.and(not());
      }
      return left;
    }

    private IntPredicate not() {
      if (is("not")) {
        next();
        return not().negate();
      }
      if (is("(")) {
        next();
        IntPredicate inside = either();
        next();
        return inside;
      }
      int trait = trait();
      return set -> (set >> trait & 1) == 1;
    }

    private List<Branch> law() {
      List<Branch> branches = new ArrayList<>();
      while (is("if")) {
        next();
        Sum one = sum();
        next();
        Sum other = sum();
        next();
        Sum then = sum();
        next();
        branches.add(new Branch(one, other, then));
      }
      branches.add(new Branch(null, null, sum()));
      return branches;
    }

    private Sum sum() {
      Sum left = product();
      while (is("+") || is("-")) {
        boolean plus = next().kind().equals("+");
        Sum one = left;
        Sum two = product();
        left = plus ? v -> one.of(v) + two.of(v) : v -> one.of(v) - two.of(v);
      }
      return left;
    }

    private Sum product() {
      Sum left = unit();
      while (is("*") || is("/")) {
        boolean times = next().kind().equals("*");
        Sum one = left;
        Sum two = unit();
        left = times ? v -> one.of(v) * two.of(v) : v -> divide(one.of(v), two.of(v));
      }
      return left;
    }

    private static int divide(int one, int two) {
      if (two == 0) {
        throw new DividedByZero();
      }
      return (int) ((long) one / two);
    }

    private Sum unit() {
      Token token = next();
      if (token.kind().equals("(")) {
        Sum inside = sum();
        next();
        return inside;
      }
      if (token.kind().equals("INT")) {
        int value = Integer.parseInt(token.text());
        return v -> value;
      }
      return v -> v.get(token.kind());
    }
  }

  // ---- laws and years

  private int law(String name, int most, State s, int b, Being being) {
    Map<String, Integer> vars = new HashMap<>();
    vars.put("stones", s.stones[b]);
    vars.put("load", t.bridges.get(b).load());
    vars.put("which", b);
    vars.put("stood", s.stood[b]);
    vars.put("year", s.year);
    vars.put("open", open(s));
    vars.put("learnt", s.learnt.size());
    vars.put("loss", being == null ? 0 : being.loss());
    vars.put("many", being == null ? 0 : Integer.bitCount(being.own()));
    List<Branch> branches = t.laws.get(name);
    if (branches == null) {
      return name.equals("asks") ? vars.get("loss") : 1;
    }
    int value = 0;
    try {
      for (Branch branch : branches) {
        if (branch.one() == null || branch.one().of(vars) < branch.other().of(vars)) {
          value = branch.then().of(vars);
          break;
        }
      }
    } catch (DividedByZero e) {
      value = 0;
    }
    return value < 0 ? 0 : value > most ? most : value;
  }

  private static int open(State s) {
    return (int) Arrays.stream(s.what).filter(what -> what == 1).count();
  }

  private boolean storm(int seed, int year) {
    int h = seed;
    for (int by : new int[] {109, 4 * year}) {
      h = (h ^ by) * 1103515245 + 12345;
      h = h ^ (h >>> 15);
    }
    return (h >>> 1) % 100 < t.storm;
  }

  private State yearsOn(State from, int n, int seed, boolean storms) {
    State s = from.copy();
    for (int i = 0; i < n; i++) {
      State was = s.copy();
      for (int b = 0; b < s.what.length; b++) {
        if (was.what[b] == 1) {
          int less = law("wears", 9, was, b, null) + (storms && storm(seed, was.year) ? 1 : 0);
          s.stood[b]++;
          s.stones[b] = Math.max(0, was.stones[b] - less);
          s.what[b] = s.stones[b] == 0 ? 2 : 1;
        }
      }
      s.year++;
    }
    return s;
  }

  // ---- what is there

  private boolean noBridge(int b) {
    return b < 0 || b >= t.bridges.size();
  }

  private boolean noBeing(int p) {
    return p < 0 || p >= t.beings.size();
  }

  private boolean noWay(int w) {
    return w < -1 || w >= t.ways.size();
  }

  int being(int p, int what) {
    if (noBeing(p) || what < 0 || what > 2) {
      return -1;
    }
    return what == 0 ? t.beings.get(p).loss() : what == 1 ? t.beings.get(p).own() : now.gone[p] ? 0 : 1;
  }

  int set(int p, int w) {
    if (noBeing(p) || noWay(w)) {
      return -1;
    }
    int own = t.beings.get(p).own();
    return w < 0 ? own : (own | t.ways.get(w).gives()) & ~t.ways.get(w).drops();
  }

  int way(int w, int what) {
    if (noWay(w) || w < 0 || what < 0 || what > 2) {
      return -1;
    }
    Way way = t.ways.get(w);
    return what == 0 ? way.cost() : what == 1 ? way.gives() : way.drops();
  }

  private int sets(IntPredicate holds) {
    int many = 0;
    for (int set = 0; set < 1 << t.traits; set++) {
      many += holds.test(set) ? 1 : 0;
    }
    return many;
  }

  int bridge(int b, int what) {
    if (noBridge(b) || what < 0 || what > 6) {
      return -1;
    }
    int[] all = {
      now.stones[b],
      t.bridges.get(b).load(),
      now.what[b],
      now.stood[b],
      law("wears", 9, now, b, null),
      law("mends", 99, now, b, null),
      sets(t.bridges.get(b).clause())
    };
    return all[what];
  }

  int asks(int b, int p) {
    return noBridge(b) || noBeing(p) ? -1 : law("asks", 99, now, b, t.beings.get(p));
  }

  int holds(int b, int set) {
    if (noBridge(b) || set < 0 || set >= 1 << t.traits) {
      return -1;
    }
    return t.bridges.get(b).clause().test(set) ? 1 : 0;
  }

  private boolean takes(int b, int set, List<Integer> learnt) {
    return t.bridges.get(b).clause().test(set) && !learnt.contains(set);
  }

  int taken(int b, int p, int w) {
    if (noBridge(b) || noBeing(p) || noWay(w)) {
      return -1;
    }
    int set = set(p, w);
    return !t.bridges.get(b).clause().test(set) ? 1 : now.learnt.contains(set) ? 2 : 0;
  }

  // ---- what is done

  private void keep() {
    done.add(now.copy());
    if (done.size() > 40) {
      done.remove(0);
    }
  }

  private int cost(int w) {
    return w < 0 ? 0 : t.ways.get(w).cost();
  }

  int send(int b, int p, int w) {
    int how = taken(b, p, w);
    if (how == -1) {
      return -1;
    }
    if (now.gone[p] || now.what[b] != 0) {
      return -2;
    }
    keep();
    now.lost += cost(w);
    if (how != 0) {
      return 0;
    }
    now.lost += t.beings.get(p).loss();
    now.gone[p] = true;
    now.what[b] = 1;
    if (set(p, w) % 2 == 1) {
      return 1;
    }
    now.cheated++;
    if (now.learnt.size() < 9) {
      now.learnt.add(set(p, w));
    }
    now.stones[b]--;
    if (now.stones[b] == 0) {
      now.what[b] = 2;
    }
    return 2;
  }

  int mend(int b) {
    if (noBridge(b)) {
      return -1;
    }
    if (now.what[b] != 1 || now.stones[b] >= 99) {
      return -2;
    }
    keep();
    now.lost += law("mends", 99, now, b, null);
    return ++now.stones[b];
  }

  int years(int n) {
    if (n < 0 || n > 60) {
      return -1;
    }
    if (n > 0) {
      keep();
      now = yearsOn(now, n, t.seed, true);
    }
    return now.year;
  }

  boolean undo() {
    if (done.isEmpty()) {
      return false;
    }
    now = done.remove(done.size() - 1);
    return true;
  }

  // ---- what would be

  /** All BEINGS and WAYS in their order. */
  private List<int[]> pairs() {
    List<int[]> pairs = new ArrayList<>();
    for (int p = 0; p < t.beings.size(); p++) {
      for (int w = -1; w < t.ways.size(); w++) {
        pairs.add(new int[] {p, w});
      }
    }
    return pairs;
  }

  private int price(int[] pair) {
    return t.beings.get(pair[0]).loss() + cost(pair[1]);
  }

  int cheap(int b, int what) {
    if (noBridge(b) || what < 0 || what > 2) {
      return -1;
    }
    int[] best = null;
    for (int[] pair : pairs()) {
      if (!now.gone[pair[0]] && taken(b, pair[0], pair[1]) == 0
          && (best == null || price(pair) < price(best))) {
        best = pair;
      }
    }
    if (best == null) {
      return -2;
    }
    return what == 0 ? price(best) : what == 1 ? best[0] : best[1] < 0 ? 9 : best[1];
  }

  private List<Integer> cheatSets(int b) {
    List<Integer> sets = new ArrayList<>();
    for (int[] pair : pairs()) {
      int set = set(pair[0], pair[1]);
      if (!now.gone[pair[0]] && taken(b, pair[0], pair[1]) == 0 && set % 2 == 0) {
        sets.add(set);
      }
    }
    return sets;
  }

  int cheats(int b) {
    return noBridge(b) ? -1 : cheatSets(b).size();
  }

  private int[][] bestPlan;
  private int bestPrice;

  private void plans(int b, int[][] plan, List<Integer> learnt, int price) {
    if (b == t.bridges.size()) {
      if (bestPlan == null || price < bestPrice) {
        bestPlan = plan.clone();
        bestPrice = price;
      }
      return;
    }
    if (now.what[b] != 0) {
      plans(b + 1, plan, learnt, price);
      return;
    }
    for (int[] pair : pairs()) {
      boolean used = now.gone[pair[0]];
      for (int i = 0; i < b; i++) {
        used |= plan[i] != null && plan[i][0] == pair[0];
      }
      int set = set(pair[0], pair[1]);
      if (!used && takes(b, set, learnt)) {
        List<Integer> then = new ArrayList<>(learnt);
        if (set % 2 == 0 && then.size() < 9) {
          then.add(set);
        }
        int[][] next = plan.clone();
        next[b] = pair;
        plans(b + 1, next, then, price + price(pair));
      }
    }
  }

  int all(int b, int what) {
    if (b != -1 && (noBridge(b) || what < 0 || what > 1)) {
      return -1;
    }
    if (b != -1 && now.what[b] != 0) {
      return -3;
    }
    bestPlan = null;
    plans(0, new int[t.bridges.size()][], now.learnt, 0);
    if (bestPlan == null) {
      return -2;
    }
    return b == -1 ? bestPrice : what == 0 ? bestPlan[b][0] : bestPlan[b][1] < 0 ? 9 : bestPlan[b][1];
  }

  int bar(int b, int what) {
    if (noBridge(b) || what < 0 || what > 1) {
      return -1;
    }
    int best = 0;
    int most = -1;
    for (int trait = 0; trait < t.traits; trait++) {
      int bit = 1 << trait;
      int shut = (int) cheatSets(b).stream().filter(set -> (set & bit) != 0).count();
      if (shut > most) {
        most = shut;
        best = trait;
      }
    }
    return what == 0 ? best : most;
  }

  int shuts(int b, int i) {
    if (noBridge(b) || i < -1 || i > 2) {
      return -1;
    }
    List<Integer> sets = cheatSets(b);
    List<Integer> best = null;
    for (int mask = 0; mask < 1 << t.traits; mask++) {
      int bars = mask;
      List<Integer> traits = new ArrayList<>();
      for (int trait = 0; trait < 8; trait++) {
        if ((mask >> trait & 1) == 1) {
          traits.add(trait);
        }
      }
      boolean shut = sets.stream().allMatch(set -> (set & bars) != 0);
      if (shut && traits.size() <= 3 && (best == null || isAhead(traits, best))) {
        best = traits;
      }
    }
    if (best == null) {
      return -2;
    }
    return i == -1 ? best.size() : i < best.size() ? best.get(i) : -1;
  }

  private static boolean isAhead(List<Integer> one, List<Integer> other) {
    if (one.size() != other.size()) {
      return one.size() < other.size();
    }
    for (int i = 0; i < one.size(); i++) {
      if (!one.get(i).equals(other.get(i))) {
        return one.get(i) < other.get(i);
      }
    }
    return false;
  }

  /** 1 .. 200, or a million for good. */
  private int falls(State from, int b) {
    State s = from;
    for (int n = 1; n <= 200; n++) {
      s = yearsOn(s, 1, 0, false);
      if (s.what[b] == 2) {
        return n;
      }
    }
    return 1000000;
  }

  int stands(int b) {
    if (noBridge(b)) {
      return -1;
    }
    int falls = now.what[b] == 1 ? falls(now, b) : 1000000;
    return falls > 200 ? -2 : falls;
  }

  int mendFirst(int what) {
    if (what < 0 || what > 1) {
      return -1;
    }
    int best = -2;
    int most = 0;
    for (int b = 0; b < t.bridges.size(); b++) {
      if (now.what[b] == 1 && now.stones[b] < 99) {
        State mended = now.copy();
        mended.stones[b]++;
        int was = falls(now, b);
        int will = falls(mended, b);
        int later = was > 200 ? 0 : will > 200 ? 1000000 : will - was;
        if (later > most) {
          most = later;
          best = b;
        }
      }
    }
    return best == -2 || what == 0 ? best : most > 200 ? -3 : most;
  }

  int alike(int b, int c, int what) {
    if (noBridge(b) || noBridge(c) || what < 0 || what > 1) {
      return -1;
    }
    IntPredicate one = t.bridges.get(b).clause();
    IntPredicate other = t.bridges.get(c).clause();
    return what == 1
        ? sets(one.and(other))
        : sets(set -> one.test(set) != other.test(set)) == 0 ? 1 : 0;
  }

  int stonesIn(int b, int n) {
    return noBridge(b) || n < 0 || n > 60 ? -1 : yearsOn(now, n, t.seed, true).stones[b];
  }

  int openIn(int n) {
    return n < 0 || n > 60 ? -1 : open(yearsOn(now, n, t.seed, true));
  }

  int year(int b, int n, int s) {
    if (noBridge(b) || n < 0 || n > 60 || s < 1 || s > 20) {
      return -1;
    }
    int many = 0;
    for (int seed = t.seed; seed < t.seed + s; seed++) {
      many += yearsOn(now, n, seed, true).what[b] == 1 ? 1 : 0;
    }
    return many;
  }

  // ---- what is told

  int tell(int trait, boolean had) {
    if (trait < 0 || trait >= t.traits || known.size() == 20) {
      return -1;
    }
    known.add(new int[] {trait, had ? 1 : 0});
    return known.size() - 1;
  }

  int forget() {
    int many = known.size();
    known.clear();
    return many;
  }

  private List<int[]> left(int b, List<int[]> known) {
    List<int[]> left = pairs();
    left.removeIf(pair -> !t.bridges.get(b).clause().test(set(pair[0], pair[1])));
    left.removeIf(
        pair -> known.stream().anyMatch(fact -> (set(pair[0], pair[1]) >> fact[0] & 1) != fact[1]));
    return left;
  }

  private int by(int b, int k, ToIntFunction<List<int[]>> answer) {
    if (noBridge(b) || k < 0 || k > known.size()) {
      return -1;
    }
    return answer.applyAsInt(known.subList(0, k));
  }

  int went(int b, int k) {
    return by(b, k, facts -> left(b, facts).size());
  }

  int sure(int b, int k) {
    return by(
        b,
        k,
        facts -> {
          int[] beings = left(b, facts).stream().mapToInt(pair -> pair[0]).distinct().toArray();
          return beings.length == 1 ? beings[0] : -2;
        });
  }

  int ask(int b, int k) {
    return by(
        b,
        k,
        facts -> {
          if (left(b, facts).isEmpty()) {
            return -2;
          }
          int best = -2;
          int fewest = 1000;
          for (int trait = 0; trait < t.traits; trait++) {
            int worst = 0;
            for (int had = 0; had < 2; had++) {
              List<int[]> more = new ArrayList<>(facts);
              more.add(new int[] {trait, had});
              worst = Math.max(worst, left(b, more).size());
            }
            if (worst < fewest) {
              fewest = worst;
              best = trait;
            }
          }
          return best;
        });
  }

  boolean hold(int slot) {
    if (slot < 0 || slot > 2) {
      return false;
    }
    slots[slot] = now.copy();
    return true;
  }

  boolean restore(int slot) {
    if (slot < 0 || slot > 2 || slots[slot] == null) {
      return false;
    }
    now = slots[slot].copy();
    done.clear();
    return true;
  }

  int count(int what) {
    int open = 0;
    int fallen = 0;
    int there = 0;
    for (int b = 0; b < now.what.length; b++) {
      open |= now.what[b] == 1 ? 1 << b : 0;
      fallen |= now.what[b] == 2 ? 1 << b : 0;
    }
    for (int p = 0; p < now.gone.length; p++) {
      there |= now.gone[p] ? 0 : 1 << p;
    }
    int held = (int) Arrays.stream(slots).filter(slot -> slot != null).count();
    int[] all = {
      t.traits, t.beings.size(), t.ways.size(), t.bridges.size(), now.year, now.lost, open, fallen,
      there, now.learnt.size(), now.cheated, tape.length(), done.size(), known.size(), held,
      storm(t.seed, now.year) ? 1 : 0
    };
    return what < 0 || what > 15 ? -1 : all[what];
  }
}
