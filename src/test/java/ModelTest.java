import java.util.ArrayList;
import java.util.Collections;
import java.util.List;
import java.util.Random;
import java.util.regex.MatchResult;
import java.util.regex.Pattern;

/** Runs of calls by chance (always the same ones), on the class and on the model. */
public final class ModelTest {
  private static final Checks CHECKS = new Checks("ModelTest");
  private static final String[] TRAITS = {"soul", "fur", "tail", "wet", "old", "mad", "tall", "deaf"};
  private static final String[] VARS = {
    "stones", "load", "year", "stood", "which", "loss", "many", "open", "learnt"
  };
  private static final String[] SCRAPS = {
    ";", "=", "+", "-", "*", "/", "<", "(", ")", "not", "and", "or", "if", "then", "else", "soul",
    "fur", "x", "12345", "100", "0", "7", "trait", "being", "way", "bridge", "wears", "storm", "seed",
    "gives", "drops", "abcdefghi", "A", ".", "stones", "trait soul ;", "not not not not not not",
    "( ( ( (", "if 1 < 2 then 3 else"
  };

  private final Random chance;
  private final FirstOver over = new FirstOver();
  private final Model model = new Model();
  private final String run;

  private ModelTest(long seed) {
    chance = new Random(seed);
    run = "run " + seed + ": ";
  }

  public static void main(String[] args) {
    int runs = args.length > 0 ? Integer.parseInt(args[0]) : 1500;
    for (int seed = 0; seed < runs; seed++) {
      new ModelTest(seed).go();
    }
    CHECKS.end();
  }

  private void go() {
    int texts = 1 + chance.nextInt(3);
    for (int i = 0; i < texts; i++) {
      readText();
      int calls = 20 + chance.nextInt(120);
      for (int call = 0; call < calls; call++) {
        call();
      }
    }
  }

  private int up(int most) {
    return chance.nextInt(most + 1);
  }

  private String number(int most) {
    return Integer.toString(up(most));
  }

  // ---- texts

  private void readText() {
    String text = text();
    if (chance.nextInt(4) == 0) {
      text = spoilt(text);
    }
    if (text.length() > 1980) {
      text = text.substring(0, 1980);
    }
    while (over.count(11) > 0) {
      int many = over.count(11);
      due("back(" + many + ")", over.back(many), model.back(many));
    }
    for (int at = 0; at < text.length(); at += 20) {
      int[] w = new int[5];
      for (int i = 0; i < 5; i++) {
        w[i] = Checks.word(text, at + 4 * i);
      }
      due("feed", over.feed(w[0], w[1], w[2], w[3], w[4]), model.feed(w));
    }
    int more = (20 - text.length() % 20) % 20;
    due("back(" + more + ")", over.back(more), model.back(more));
    due("read() of [" + text + "]", over.read(), model.read());
    due("place() of [" + text + "]", over.place(), model.place());
  }

  private String text() {
    List<String> tells = new ArrayList<>();
    int traits = 1 + up(chance.nextInt(8) == 0 ? 8 : 7);
    int beings = up(chance.nextInt(8) == 0 ? 8 : 7);
    int ways = up(chance.nextInt(8) == 0 ? 5 : 4);
    int bridges = chance.nextInt(8) == 0 ? up(5) : 1 + up(3);
    if (chance.nextInt(3) > 0) {
      ways = Math.min(ways, 2);
      beings = Math.min(beings, 5);
    }
    // Some TRAITS are told behind what has none of them.
    int known = Math.min(8, chance.nextInt(3) == 0 ? 1 + up(traits - 1) : traits);
    for (int i = 0; i < beings; i++) {
      tells.add(being(i, known));
    }
    for (int i = 0; i < ways; i++) {
      tells.add(way(i, known));
    }
    for (int i = 0; i < bridges; i++) {
      tells.add(bridge(i, known));
    }
    if (chance.nextInt(3) == 0) {
      Collections.shuffle(tells, chance);
    }
    tells.addAll(chance.nextInt(3) == 0 ? up(tells.size()) : tells.size(), laws());
    for (int i = 0, from = 0; i < traits; i++) {
      from = i < known ? i : from + 1 + up(Math.max(0, tells.size() - from - 1));
      tells.add(Math.min(from, tells.size()), "trait " + (i < 8 ? TRAITS[i] : "more") + "; ");
    }
    return String.join("", tells);
  }

  private String being(int number, int known) {
    StringBuilder text = new StringBuilder("being p");
    text.append((char) ('a' + number)).append(' ').append(loss());
    for (int trait = 0; trait < known; trait++) {
      if (chance.nextInt(trait == 0 ? 4 : 3) == 0) {
        text.append(' ').append(TRAITS[trait]);
      }
    }
    return text.append(";").toString();
  }

  private String way(int number, int known) {
    StringBuilder text = new StringBuilder("way w");
    text.append((char) ('a' + number)).append(' ').append(loss());
    for (int changes = up(3); changes > 0; changes--) {
      text.append(chance.nextBoolean() ? " gives " : " drops ").append(TRAITS[up(known - 1)]);
    }
    return text.append(";\n").toString();
  }

  private String bridge(int number, int known) {
    StringBuilder text = new StringBuilder("bridge b");
    text.append((char) ('a' + number)).append(' ');
    text.append(chance.nextInt(3) == 0 ? "1" : chance.nextInt(5) == 0 ? "98" : 1 + up(20));
    text.append(' ').append(number(99)).append('=').append(clause(known, 3)).append(';');
    return text.toString();
  }

  private String loss() {
    return chance.nextInt(3) == 0 ? number(3) : number(chance.nextInt(60) == 0 ? 101 : 99);
  }

  private String clause(int traits, int depth) {
    int kind = depth <= 0 ? 0 : chance.nextInt(6);
    switch (kind) {
      case 1:
        return "not " + clause(traits, depth - 1);
      case 2:
        return "(" + clause(traits, depth - 1) + ")";
      case 3:
        return clause(traits, depth - 1) + " and " + clause(traits, depth - 1);
      case 4:
      case 5:
        return clause(traits, depth - 1) + " or " + clause(traits, depth - 1);
      default:
        return (chance.nextInt(3) == 0 ? "not " : "") + TRAITS[up(traits - 1)];
    }
  }

  private List<String> laws() {
    List<String> tells = new ArrayList<>();
    String[] names = {"wears", "mends", "asks"};
    for (String name : names) {
      for (int many = chance.nextInt(5) == 0 ? 2 : up(1); many > 0; many--) {
        tells.add(name + " = " + law() + "; ");
      }
    }
    if (chance.nextBoolean()) {
      tells.add("storm " + up(chance.nextInt(20) == 0 ? 110 : 100) + ";");
    }
    if (chance.nextBoolean()) {
      tells.add("seed " + up(9999) + " ;");
    }
    return tells;
  }

  private String law() {
    StringBuilder text = new StringBuilder();
    for (int ifs = chance.nextInt(3) == 0 ? up(4) : 0; ifs > 0; ifs--) {
      text.append("if ").append(sum(2)).append('<').append(sum(2));
      text.append(" then ").append(sum(1)).append(" else ");
    }
    return text.append(sum(3)).toString();
  }

  private String sum(int depth) {
    int kind = depth <= 0 ? chance.nextInt(2) : chance.nextInt(8);
    switch (kind) {
      case 0:
        return chance.nextInt(12) == 0 ? number(9999) : number(6);
      case 1:
      case 2:
        return VARS[up(8)];
      case 3:
        return "(" + sum(depth - 1) + ")";
      default:
        return sum(depth - 1) + "+-*/".charAt(kind - 4) + sum(depth - 1);
    }
  }

  /** With a few scraps put in, taken out or doubled. */
  private String spoilt(String text) {
    String spoilt = text;
    for (int many = 1 + up(2); many > 0 && !spoilt.isEmpty(); many--) {
      int at = up(spoilt.length() - 1);
      int to = Math.min(spoilt.length(), at + 1 + up(chance.nextInt(3) == 0 ? 30 : 3));
      switch (chance.nextInt(8)) {
        case 0:
          spoilt = spoilt.substring(0, at) + spoilt.substring(to);
          break;
        case 1:
          spoilt = spoilt.substring(0, at) + spoilt.substring(at, to) + spoilt.substring(at);
          break;
        case 2:
          String scrap = SCRAPS[up(SCRAPS.length - 1)];
          spoilt = spoilt.substring(0, at) + " " + scrap + " " + spoilt.substring(at);
          break;
        case 3:
          spoilt = spoilt.substring(0, at) + (char) up(255) + spoilt.substring(at);
          break;
        default:
          spoilt = withOneForAnother(spoilt, chance.nextBoolean() ? "\\b[a-z]+" : "\\b[0-9]+");
          break;
      }
    }
    if (chance.nextInt(6) == 0) {
      int room = 395 + up(8);
      String[] parts = {"seed 5;", "1+", "not("};
      String part = parts[up(2)];
      spoilt = (part.equals("1+") ? "wears=" : "") + part.repeat(room / part.length()) + spoilt;
    }
    return spoilt;
  }

  /** A word (or number) stands where another one was: the text mostly goes on as SYNTAX has it. */
  private String withOneForAnother(String text, String sort) {
    List<MatchResult> all = Pattern.compile(sort).matcher(text).results().toList();
    if (all.isEmpty()) {
      return text;
    }
    MatchResult one = all.get(up(all.size() - 1));
    String other = all.get(up(all.size() - 1)).group();
    String more = sort.contains("9") && chance.nextBoolean() ? number(120) : other;
    return text.substring(0, one.start()) + more + text.substring(one.end());
  }

  // ---- calls

  private void due(String call, long got, long want) {
    CHECKS.due(run + call, got, want);
  }

  private void due(String call, boolean got, boolean want) {
    CHECKS.due(run + call, got, want);
  }

  /** Mostly a number that there is, now and then another one. */
  private int about(int least, int most) {
    switch (chance.nextInt(40)) {
      case 0:
        return least - 1;
      case 1:
        return most + 1;
      case 2:
        return chance.nextInt();
      case 3:
        return chance.nextBoolean() ? Integer.MIN_VALUE : Integer.MAX_VALUE;
      default:
        return least > most ? least : least + chance.nextInt(most - least + 1);
    }
  }

  private void call() {
    int b = about(0, over.count(3) - 1);
    int c = about(0, over.count(3) - 1);
    int p = about(0, over.count(1) - 1);
    int w = about(-1, over.count(2) - 1);
    int kind = chance.nextInt(40);
    if (kind < 20) {
      callOfFirst(kind, b, p, w);
    } else {
      callOfSecond(kind, b, c);
    }
  }

  private void callOfFirst(int kind, int b, int p, int w) {
    int what = about(0, 6);
    switch (kind) {
      case 0:
        due("being(" + p + "," + what % 3 + ")", over.being(p, what % 3), model.being(p, what % 3));
        due("being(" + p + "," + what + ")", over.being(p, what), model.being(p, what));
        break;
      case 1:
        due("set(" + p + "," + w + ")", over.set(p, w), model.set(p, w));
        break;
      case 2:
        due("way(" + w + "," + what + ")", over.way(w, what), model.way(w, what));
        break;
      case 3:
      case 4:
        due("bridge(" + b + "," + what + ")", over.bridge(b, what), model.bridge(b, what));
        break;
      case 5:
        due("asks(" + b + "," + p + ")", over.asks(b, p), model.asks(b, p));
        break;
      case 6:
        int set = about(0, (1 << over.count(0)) - 1);
        due("holds(" + b + "," + set + ")", over.holds(b, set), model.holds(b, set));
        break;
      case 7:
        due("taken(" + b + "," + p + "," + w + ")", over.taken(b, p, w), model.taken(b, p, w));
        break;
      case 8:
      case 9:
      case 10:
      case 11:
        due("send(" + b + "," + p + "," + w + ")", over.send(b, p, w), model.send(b, p, w));
        break;
      case 12:
      case 13:
        due("mend(" + b + ")", over.mend(b), model.mend(b));
        break;
      case 14:
      case 15:
        int n = chance.nextInt(10) == 0 ? about(0, 60) : up(3);
        due("years(" + n + ")", over.years(n), model.years(n));
        break;
      case 16:
        due("undo()", over.undo(), model.undo());
        break;
      case 17:
        due("cheap(" + b + "," + what + ")", over.cheap(b, what), model.cheap(b, what));
        due("cheap(" + b + "," + w + ")", over.cheap(b, w), model.cheap(b, w));
        break;
      case 18:
        due("cheats(" + b + ")", over.cheats(b), model.cheats(b));
        break;
      default:
        if (over.count(1) * (over.count(2) + 1) * over.count(3) < 80) {
          due("all(-1,0)", over.all(-1, 0), model.all(-1, 0));
          due("all(" + b + ",0)", over.all(b, 0), model.all(b, 0));
          due("all(" + b + "," + w + ")", over.all(b, w), model.all(b, w));
        }
        break;
    }
  }

  private void callOfSecond(int kind, int b, int c) {
    int n = chance.nextInt(3) == 0 ? about(0, 60) : up(8);
    int what = about(0, 1);
    int k = about(0, over.count(13));
    switch (kind) {
      case 20:
      case 21:
        due("bar(" + b + "," + what + ")", over.bar(b, what), model.bar(b, what));
        break;
      case 22:
      case 23:
        int i = about(-1, 2);
        due("shuts(" + b + "," + i + ")", over.shuts(b, i), model.shuts(b, i));
        break;
      case 24:
        due("stands(" + b + ")", over.stands(b), model.stands(b));
        break;
      case 25:
        due("mendFirst(" + what + ")", over.mendFirst(what), model.mendFirst(what));
        break;
      case 26:
        due("alike(" + b + "," + c + ")", over.alike(b, c, what), model.alike(b, c, what));
        break;
      case 27:
        due("stonesIn(" + b + "," + n + ")", over.stonesIn(b, n), model.stonesIn(b, n));
        break;
      case 28:
        due("openIn(" + n + ")", over.openIn(n), model.openIn(n));
        break;
      case 29:
        int s = about(1, 20);
        due("year(" + b + "," + n + "," + s + ")", over.year(b, n, s), model.year(b, n, s));
        break;
      case 30:
      case 31:
        int trait = about(0, over.count(0) - 1);
        boolean had = chance.nextBoolean();
        due("tell(" + trait + "," + had + ")", over.tell(trait, had), model.tell(trait, had));
        break;
      case 32:
        if (chance.nextInt(3) == 0) {
          due("forget()", over.forget(), model.forget());
        }
        break;
      case 33:
        due("went(" + b + "," + k + ")", over.went(b, k), model.went(b, k));
        break;
      case 34:
        due("sure(" + b + "," + k + ")", over.sure(b, k), model.sure(b, k));
        break;
      case 35:
        due("ask(" + b + "," + k + ")", over.ask(b, k), model.ask(b, k));
        break;
      case 36:
        int slot = about(0, 2);
        due("hold(" + slot + ")", over.hold(slot), model.hold(slot));
        break;
      case 37:
        int from = about(0, 2);
        due("restore(" + from + ")", over.restore(from), model.restore(from));
        break;
      default:
        int which = about(0, 15);
        due("count(" + which + ")", over.count(which), model.count(which));
        break;
    }
  }
}
