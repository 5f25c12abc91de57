/**
 * The document's Terms, sentence by sentence: what each of them names as an edge is looked at on both
 * sides. The edges of the promises stand in EdgesTest.
 */
public final class TermsTest {
  private static final Checks CHECKS = new Checks("TermsTest");

  private static final String[] WORDS = {
    "trait", "being", "way", "gives", "drops", "bridge", "wears", "mends", "asks", "storm", "seed", "or",
    "and", "not", "if", "then", "else", "stones", "load", "year", "stood", "which", "loss", "many", "open",
    "learnt"
  };

  /** The most of each sort: 8 TRAITS, 7 BEINGS, 4 WAYS, 4 BRIDGES. */
  private static final String FULL =
      many("trait", 8, ";") + many("being", 7, " 1;") + many("way", 4, " 1;") + many("bridge", 4, " 1 0 = ta;");

  private static void due(String what, long got, long want) {
    CHECKS.due(what, got, want);
  }

  private static void says(String words) {
    CHECKS.says(words);
  }

  /** The text is put on a new object's tape and read: the FAULT and its place. */
  private static FirstOver reads(String text, int fault, int place) {
    FirstOver over = new FirstOver();
    Checks.put(over, text);
    String told = text.length() > 150 ? text.substring(0, 150) + ".." + text.length() : text;
    due("read() of [" + told + "]", over.read(), fault);
    due("place() of [" + told + "]", over.place(), place);
    return over;
  }

  private static FirstOver good(String text) {
    return reads(text, 0, -1);
  }

  /** The FAULT stands where the text has a |. */
  private static void bad(String text, int fault) {
    int place = text.indexOf('|');
    reads(text.substring(0, place) + text.substring(place + 1), fault, place);
  }

  /** So many of a sort, named by its first letter and a, b, .. */
  private static String many(String sort, int many, String behind) {
    StringBuilder text = new StringBuilder();
    for (int i = 0; i < many; i++) {
      text.append(sort).append(' ').append(sort.charAt(0)).append((char) ('a' + i)).append(behind);
    }
    // A being and a bridge begin alike.
    return sort.equals("bridge") ? text.toString().replace("bridge b", "bridge r") : text.toString();
  }

  public static void main(String[] args) {
    length();
    blanks();
    names();
    ints();
    signs();
    longest();
    tells();
    sorts();
    numbers();
    ifNotTold();
    places();
    room();
    twiceAndName();
    least();
    changesNothing();
    inPlace();
    readBehindOthers();
    lawsAndIfs();
    wraps();
    divisions();
    vars();
    held();
    lots();
    sets();
    clausesHold();
    sent();
    learns();
    mended();
    yearsGoBy();
    cheap();
    cheats();
    all();
    bar();
    shuts();
    stands();
    firstToMend();
    alike();
    ahead();
    bySeeds();
    told();
    CHECKS.end();
  }

  // ---- I

  private static void length() {
    says("A TEXT has 2,000 bytes at most.");
    good(" ".repeat(2000));
    due("seed of 2000 bytes", good("storm 100;" + " ".repeat(1990)).count(15), 1);
    due("told by the last bytes", good(" ".repeat(1990) + "storm 100;").count(15), 1);
    bad(" ".repeat(1999) + "|x", 1);
    bad("trait a" + " ".repeat(1993) + "|", 1);
    bad("|" + "a".repeat(2000), 1);
    bad("|" + "1".repeat(2000), 1);
    says("text: {TELL}.");
    due("an empty text", good("").count(3), 0);
  }

  private static void blanks() {
    says("with blanks (9, 10, 13, 32) between or not");
    for (int sign = 0; sign < 256; sign++) {
      String text = "trait" + (char) sign + "a;";
      boolean isBlank = sign == 9 || sign == 10 || sign == 13 || sign == 32;
      boolean isLetter = sign >= 'a' && sign <= 'z';
      reads(text, isBlank ? 0 : 1, isBlank ? -1 : isLetter ? 0 : 5);
      reads("" + (char) sign, isBlank ? 0 : 1, isBlank ? -1 : 0);
      reads("trait a;" + (char) sign, isBlank ? 0 : 1, isBlank ? -1 : 8);
    }
    good("\t\n\r trait\t\n\r a\t\n\r ;\t\n\r ");
    good("trait a;bridge b1 1=(not(a)or a)and(a);wears=if(1)<2then 3else(4)*stones/load;");
    bad("seed 1 |2;", 1);
    bad("trait a |b;", 1);
  }

  private static void names() {
    says("NAMES (letters a .. z, 8 at most, none of the words in quotes)");
    for (int letters = 1; letters <= 12; letters++) {
      reads("trait " + "z".repeat(letters) + ";", letters <= 8 ? 0 : 1, letters <= 8 ? -1 : 6);
    }
    good("trait abcdefgh; trait ijklmnop; trait qrstuvwx; trait yz;");
    bad("trait |ABC;", 1);
    bad("trait a|B;", 1);
    bad("trait |`;", 1);
    bad("trait |{;", 1);
    for (String word : WORDS) {
      reads("trait " + word + ";", 1, 6);
      reads("being " + word + " 1;", 1, 6);
      good("trait " + word + "x;");
      good("trait " + word.substring(0, word.length() - 1) + ";");
      good("trait x" + word + ";");
    }
    says("a NAME is what it is by all of its letters");
    good("trait aaaaaaaa; trait aaaaaaab; trait baaaaaaa; trait aaaaaaa; trait a; trait aa;");
  }

  private static void ints() {
    says("INTS (1 to 4 digits)");
    for (String number : new String[] {"0", "9", "00", "99", "000", "999", "0000", "9999"}) {
      good("seed " + number + ";");
      good("wears = " + number + ";");
    }
    bad("seed |00000;", 1);
    bad("seed |10000;", 1);
    bad("wears = |10000;", 1);
    bad("wears = 1 + |00001;", 1);
    bad("seed |4294967296;", 1);
    bad("seed |4294967301;", 1);
    bad("seed |18446744073709551621;", 1);
    due("0007", good("being b 0007;").being(0, 0), 7);
  }

  private static void signs() {
    says("SIGNS ; = + - * / < ( ) . A longer one, all else, is no TOKEN.");
    for (int sign = 0; sign < 256; sign++) {
      boolean isBlank = sign == 9 || sign == 10 || sign == 13 || sign == 32;
      boolean joins = sign == '+' || sign == '-' || sign == '*' || sign == '/';
      boolean ends = sign == ';';
      reads("wears = 1 " + (char) sign + " 1;", joins ? 0 : 1, joins ? -1 : isBlank || ends ? 12 : 10);
      reads("wears = 1" + (char) sign, ends ? 0 : 1, ends ? -1 : isBlank || joins || isDigit(sign) ? 10 : 9);
    }
    bad("wears =|= 1;", 1);
    bad("wears = if 1 <|= 2 then 3 else 4;", 1);
    bad("wears = 1 +|+ 1;", 1);
    bad("wears = 1 *|* 1;", 1);
    bad("wears = 1 -|- 1;", 1);
    bad("wears = 1;|;", 1);
  }

  private static boolean isDigit(int sign) {
    return sign >= '0' && sign <= '9';
  }

  private static void longest() {
    says("TOKENS, the longest that can be");
    bad("|traita;", 1);
    bad("trait a|5;", 1);
    due("b12", good("being b12;").being(0, 0), 12);
    due("b1 2", good("trait a; bridge b1 2=a;").bridge(0, 1), 2);
    bad("trait a; bridge b12|=a;", 1);
    bad("trait a; bridge b 1 0 = |nota;", 4);
    bad("trait a; bridge b 1 0 = a |anda;", 1);
    bad("trait a; bridge b 1 0 = a |ora;", 1);
    good("wears = if 1<2then 3else 4;");
    good("seed7;storm8;");
  }

  private static void tells() {
    says("'being' NAME INT {NAME} ';'");
    due("no TRAIT", good("being b 1;").being(0, 1), 0);
    due("all TRAITS", good(many("trait", 8, ";") + "being b 1 ta tb tc td te tf tg th;").being(0, 1), 255);
    due("one twice", good("trait a; trait b; being c 1 b b;").being(0, 1), 2);
    says("'way' NAME INT {('gives' | 'drops') NAME} ';'");
    due("gives nothing", good("way w 1;").way(0, 1), 0);
    due("drops nothing", good("way w 1;").way(0, 2), 0);
    due("gives all", good(many("trait", 8, ";") + "way w 1 gives ta gives tb gives tc gives td gives te"
        + " gives tf gives tg gives th;").way(0, 1), 255);
    bad("trait a; way w 1 gives a drops|;", 1);
    bad("trait a; way w 1 gives |drops a;", 1);
    says("N: 'not' N | NAME | '(' C ')'.");
    bad("trait a; bridge b 1 0 = |;", 1);
    bad("trait a; bridge b 1 0 = (|);", 1);
    bad("trait a; bridge b 1 0 = not|;", 1);
    bad("trait a; bridge b 1 0 = a and|;", 1);
    bad("trait a; bridge b 1 0 = a or|;", 1);
    says("UNIT: INT | VAR | '(' E ')'.");
    bad("wears = (|);", 1);
    bad("wears = |;", 1);
    bad("wears = |not 1;", 1);
    bad("wears = |then;", 1);
    for (int i = 17; i < WORDS.length; i++) {
      good("wears = " + WORDS[i] + ";");
      good("mends = " + WORDS[i] + ";");
      good("asks = " + WORDS[i] + ";");
    }
    for (int i = 0; i < 17; i++) {
      reads("asks = " + WORDS[i] + ";", 1, 7 + (WORDS[i].equals("if") ? 2 : 0));
    }
  }

  private static void sorts() {
    says("TRAITS, 8 at most, BEINGS, 7 at most, WAYS, 4 at most, BRIDGES, 4 at most");
    FirstOver full = good(FULL);
    due("TRAITS", full.count(0), 8);
    due("BEINGS", full.count(1), 7);
    due("WAYS", full.count(2), 4);
    due("BRIDGES", full.count(3), 4);
    due("the last BEING", full.being(6, 0), 1);
    due("the last WAY", full.way(3, 0), 1);
    due("the last BRIDGE", full.bridge(3, 0), 1);
    for (String more : new String[] {"trait x;", "being x 1;", "way x 1;", "bridge x 1 0 = ta;"}) {
      says("ROOM: one more of a sort than told (at its first TOKEN)");
      bad(FULL + "|" + more, 2);
      bad(FULL + "|" + more.substring(0, more.indexOf(' ')), 2);
      bad(FULL + "seed 1; |" + more + " x", 2);
    }
    good(FULL + "wears = 1; mends = 1; asks = 1; storm 1; seed 1;");
    says("numbered each from 0 on as they stand");
    FirstOver mixed =
        good("being p 5; trait a; way v 6; trait b; bridge x 7 1 = b; being q 8 b; bridge y 9 2 = a; way w 3 gives b;");
    due("BEING 0", mixed.being(0, 0), 5);
    due("BEING 1", mixed.being(1, 0), 8);
    due("BEING 1's TRAITS", mixed.being(1, 1), 2);
    due("WAY 0", mixed.way(0, 0), 6);
    due("WAY 1", mixed.way(1, 0), 3);
    due("WAY 1 gives", mixed.way(1, 1), 2);
    due("BRIDGE 0", mixed.bridge(0, 0), 7);
    due("BRIDGE 1", mixed.bridge(1, 0), 9);
    due("BRIDGE 0's CLAUSE", mixed.holds(0, 2), 1);
    due("BRIDGE 1's CLAUSE", mixed.holds(1, 2), 0);
  }

  private static void numbers() {
    says("LOSS 0 .. 99");
    due("LOSS", good("being b 0;").being(0, 0), 0);
    due("LOSS", good("being b 99;").being(0, 0), 99);
    bad("being b |100;", 5);
    bad("being b |9999;", 5);
    says("COST 0 .. 99");
    due("COST", good("way w 0;").way(0, 0), 0);
    due("COST", good("way w 99;").way(0, 0), 99);
    bad("way w |100;", 5);
    says("STONES 1 .. 99");
    due("STONES", good("trait a; bridge b 1 0 = a;").bridge(0, 0), 1);
    due("STONES", good("trait a; bridge b 99 0 = a;").bridge(0, 0), 99);
    bad("trait a; bridge b |0 0 = a;", 5);
    bad("trait a; bridge b |0000 0 = a;", 5);
    bad("trait a; bridge b |100 0 = a;", 5);
    says("LOAD 0 .. 99");
    due("LOAD", good("trait a; bridge b 1 0 = a;").bridge(0, 1), 0);
    due("LOAD", good("trait a; bridge b 1 99 = a;").bridge(0, 1), 99);
    bad("trait a; bridge b 1 |100 = a;", 5);
    says("STORM: in how many of 100 years 0 .. 100");
    due("STORM 0", good("storm 0;").count(15), 0);
    due("STORM 100", good("storm 100;").count(15), 1);
    bad("storm |101;", 5);
    says("SEED 0 .. 9999");
    good("seed 0;");
    good("seed 9999;");
    says("INTS of a LAW are not told to be held");
    good("wears = 9999;");
  }

  private static void ifNotTold() {
    says("LAWS: WEARS (1), MENDS (1), ASKS (loss), if not told; the last one.");
    String town = "trait a; being b 7 a; bridge c 9 5 = a;";
    FirstOver plain = good(town);
    due("WEARS", plain.bridge(0, 4), 1);
    due("MENDS", plain.bridge(0, 5), 1);
    due("ASKS", plain.asks(0, 0), 7);
    FirstOver twice = good(town + "wears = 2; mends = 3; asks = 4; wears = 5; mends = 6; asks = 8;");
    due("WEARS", twice.bridge(0, 4), 5);
    due("MENDS", twice.bridge(0, 5), 6);
    due("ASKS", twice.asks(0, 0), 8);
    Checks.put(twice, town);
    due("read()", twice.read(), 0);
    due("WEARS of the next text", twice.bridge(0, 4), 1);
    due("MENDS of the next text", twice.bridge(0, 5), 1);
    due("ASKS of the next text", twice.asks(0, 0), 7);
    says("STORM (0), SEED (0): the last one");
    due("no STORM", plain.count(15), 0);
    due("the last STORM", good("storm 0; storm 100;").count(15), 1);
    due("the last STORM", good("storm 100; storm 0;").count(15), 0);
    FirstOver untold = good("storm 50; seed 4321;");
    for (String text : new String[] {"storm 50; seed 1234;", "storm 50;"}) {
      Checks.put(untold, text);
      due("read()", untold.read(), 0);
    }
    for (int year = 0; year < 60; year++) {
      due("SEED 0 if not told", untold.count(15), lot(100, 0, 4L * year) < 50 ? 1 : 0);
      untold.years(1);
    }
    int year = 0;
    while (lot(100, 0, 4L * year) == lot(100, 5, 4L * year)) {
      year++;
    }
    long storms = Math.min(lot(100, 0, 4L * year), lot(100, 5, 4L * year)) + 1;
    long ofNought = lot(100, 0, 4L * year) < storms ? 1 : 0;
    String storm = "storm " + storms + ";";
    due("SEED 0 if not told", gone(good(storm), year).count(15), ofNought);
    due("the last SEED", gone(good(storm + "seed 5; seed 0;"), year).count(15), ofNought);
    due("the last SEED", gone(good(storm + "seed 0; seed 5;"), year).count(15), 1 - ofNought);
  }

  private static FirstOver gone(FirstOver over, int years) {
    for (int left = years; left > 0; left -= 60) {
      over.years(Math.min(60, left));
    }
    return over;
  }

  private static void places() {
    says("FAULTS of a text, the first by its place (a byte; the text's end: its length)");
    bad("trait|", 1);
    bad("trait \n |", 1);
    bad("trait a; bridge b 1 0 = a|", 1);
    bad("trait a; bridge b 1 0 = a and not (a |", 1);
    bad("wears = if 1 < 2 then 3|", 1);
    bad("seed 1; |x y z", 1);
    bad("|x trait a; trait a;", 1);
    bad("trait a; |x " + "seed 1;".repeat(200), 1);
    bad("seed 1;".repeat(133) + "trait|; x", 1);
    says("SYNTAX: a TOKEN, or what is none, with which no text goes on");
    bad("trait a;|?", 1);
    bad("trait a;|;", 1);
    bad("trait a; trait a|? ", 1);
  }

  private static void room() {
    says("ROOM: a 401st TOKEN");
    String tokens = "seed 1;".repeat(133);
    good(tokens);
    good("wears=" + "1+".repeat(198) + "1;");
    good("wears=" + "1+".repeat(198) + "1;" + " ".repeat(900));
    bad("wears=" + "1+".repeat(198) + "1;|trait a;", 2);
    bad("wears=" + "1+".repeat(198) + "1;   |seed", 2);
    bad("wears=" + "1+".repeat(197) + "1+(1|);", 2);
    bad("wears=" + "1+".repeat(198) + "1+|1;", 2);
    String before = "trait a; bridge b 1 0=";
    good(before + "a or ".repeat(195) + "a;");
    bad(before + "a or ".repeat(196) + "|a;", 2);
    bad(before + "a and ".repeat(196) + "|(", 2);
    bad(before + "a or ".repeat(195) + "not not |not a;", 2);
    says("a 401st TOKEN with which no text goes on: of one place the least");
    bad("wears=" + "1+".repeat(198) + "1;|;", 1);
    bad("wears=" + "1+".repeat(198) + "1;|x", 1);
    bad("wears=" + "1+".repeat(198) + "1;|?", 1);
    bad(tokens + "seed|", 1);
    roomAtEach();
    says("ROOM: a 5th if of a LAW (at it)");
    String branch = "if 1<2 then 3 else ";
    for (String law : new String[] {"wears", "mends", "asks"}) {
      good(law + "=" + branch.repeat(4) + "5;");
      bad(law + "=" + branch.repeat(4) + "|" + branch + "5;", 2);
    }
    good("wears=" + branch.repeat(4) + "5; wears=" + branch.repeat(4) + "5;");
    says("ROOM: a 7th ( within one another (at it)");
    good("wears=" + "(".repeat(6) + "1" + ")".repeat(6) + ";");
    bad("wears=" + "(".repeat(6) + "|(1" + ")".repeat(7) + ";", 2);
    bad("wears=1*" + "(1+".repeat(6) + "|(", 2);
    bad("wears=if " + "(".repeat(6) + "|(1", 2);
    bad("wears=if 1<" + "(".repeat(6) + "|(1", 2);
    bad("wears=if 1<2 then " + "(".repeat(6) + "|(1", 2);
    bad("wears=" + branch + "(".repeat(6) + "|(1", 2);
    good("wears=" + ("((((((1))))))" + "+").repeat(9) + "1;");
    String clause = "trait a; bridge b 1 0=";
    good(clause + "(".repeat(6) + "a" + ")".repeat(6) + ";");
    bad(clause + "(".repeat(6) + "|(a" + ")".repeat(7) + ";", 2);
    bad(clause + "(a or not ".repeat(6) + "|(a", 2);
    good(clause + ("((((((a))))))" + " and ").repeat(9) + "a;");
    says("ROOM: a 7th 'not' right behind one another (at it)");
    due("six", good(clause + "not ".repeat(6) + "a;").holds(0, 1), 1);
    due("five", good(clause + "not ".repeat(5) + "a;").holds(0, 1), 0);
    bad(clause + "not ".repeat(6) + "|not a;", 2);
    bad(clause + "a or (a and " + "not ".repeat(6) + "|not", 2);
    good(clause + "not ".repeat(6) + "(" + "not ".repeat(6) + "a) or " + "not ".repeat(6) + "a;");
    deepest();
    says("ROOM: a text of both the most ( and the most 'not'");
    due("six of six", good(clause + "(not not not not not not ".repeat(6) + "a" + ")".repeat(6) + ";").holds(0, 1), 1);
    due("and one more", good(clause + "(not not not not not not ".repeat(5) + "(not a" + ")".repeat(6) + ";").holds(0, 1), 0);
  }

  /** As much as can wait for what is within the ( . */
  private static void deepest() {
    says("six ( within one another, with an 'or' and an 'and' ahead of each");
    String two = "trait a; trait b; bridge c 1 0 = ";
    FirstOver x = good(two + "b or a and (".repeat(6) + "b or a and not b" + ")".repeat(6) + ";");
    int[] either = {0, 1, 1, 1};
    FirstOver y = good(two + "b and a or not a and (".repeat(6) + "b or not b" + ")".repeat(6) + ";");
    int[] other = {1, 0, 1, 1};
    FirstOver z = good(two + "a and not b or a and (".repeat(6) + "a and b or a and b" + ")".repeat(6) + ";");
    int[] third = {0, 1, 0, 1};
    for (int set = 0; set < 4; set++) {
      due("the deepest of " + set, x.holds(0, set), either[set]);
      due("the deepest of " + set, y.holds(0, set), other[set]);
      due("the deepest of " + set, z.holds(0, set), third[set]);
    }
    says("six ( within one another, with a '-' and a '*' ahead of each");
    // 5 - 2 * 2 is 1, and 3 - 2 * 1 is 1 again.
    wears("3 - 2 * (".repeat(6) + "5 - 2 * 2" + ")".repeat(6), 1);
    wears("9 - 2 * (" + "3 - 2 * (".repeat(5) + "5 - 2 * 2" + ")".repeat(6), 7);
  }

  /** So many TOKENS that tell nothing but a LAW and a SEED: six at least. */
  private static String tokens(int many) {
    int laws = many % 3;
    return "wears=1;".repeat(laws) + "seed 1;".repeat((many - 4 * laws) / 3);
  }

  /** Whichever TOKEN of a TELL is the 401st, the FAULT stands at it. */
  private static void roomAtEach() {
    String[] tells = {
      "trait x ;",
      "being x 1 ;",
      "trait y ; being x 1 y y y ;",
      "way x 1 ;",
      "trait y ; way x 1 gives y drops y gives y ;",
      "trait y ; bridge x 1 1 = y ;",
      "trait y ; bridge x 1 1 = not not ( y and y or not y ) or ( y and ( y ) ) ;",
      "wears = 1 ;",
      "mends = ( stones + 1 ) * load - 7 / ( 2 - ( year ) ) ;",
      "asks = if loss < many * 2 then ( loss ) + 1 else if 1 < 2 then 3 else 4 - 1 ;",
      "storm 1 ;",
      "seed 1 ;"
    };
    for (String tell : tells) {
      String[] parts = tell.split(" ");
      good(tokens(400 - parts.length) + tell);
      for (int ahead = 0; ahead < parts.length; ahead++) {
        StringBuilder text = new StringBuilder(tokens(400 - ahead));
        StringBuilder wrong = new StringBuilder(text);
        for (int i = 0; i < parts.length; i++) {
          text.append(i == ahead ? "|" : "").append(parts[i]).append(' ');
          wrong.append(i == ahead ? "|? " : "").append(parts[i]).append(' ');
        }
        bad(text.toString(), 2);
        bad(wrong.toString(), 1);
      }
    }
  }

  private static void twiceAndName() {
    says("TWICE: a NAME told already (all together)");
    String[] sorts = {"trait #;", "being # 1;", "way # 1;", "bridge # 1 0 = s;"};
    for (String first : sorts) {
      for (String next : sorts) {
        String ahead = "trait s; " + first.replace("#", "x") + " ";
        bad(ahead + next.replace("#", "|x"), 3);
        good(ahead + next.replace("#", "y"));
      }
    }
    bad("trait s; trait |s; trait s;", 3);
    twiceOfMost();
    says("NAME: (at it) no such TRAIT told ahead");
    bad("being b 1 |a; trait a;", 4);
    bad("way w 1 gives |a; trait a;", 4);
    bad("way w 1 drops |a; trait a;", 4);
    bad("bridge b 1 0 = |a; trait a;", 4);
    bad("trait a; bridge b 1 0 = a and not (a or |c); trait c;", 4);
    bad("being x 1; being y 1 |x;", 4);
    bad("way x 1; being y 1 |x;", 4);
    bad("trait a; bridge x 1 0 = a; being y 1 |x;", 4);
    bad("trait a; bridge x 1 0 = a or |x;", 4);
    bad("being x 1 |x;", 4);
    says("a NAME told more than once is that of the first one");
    bad("being x 1; trait |x; being y 1 x;", 3);
    bad("trait a; trait b; trait |a; being y 1 a;", 3);
  }

  /** Each of the 23 NAMES that a text can tell, told once more in place of each later one. */
  private static void twiceOfMost() {
    String[] tells = FULL.split("(?<=;)");
    for (int first = 0; first < tells.length; first++) {
      for (int next = first + 1; next < tells.length; next++) {
        StringBuilder text = new StringBuilder();
        for (int i = 0; i < tells.length; i++) {
          String name = tells[i].split("[ ;]")[1];
          String other = tells[first].split("[ ;]")[1];
          text.append(i == next ? tells[i].replaceFirst(" " + name, " |" + other) : tells[i]);
        }
        bad(text.toString(), 3);
      }
    }
  }

  private static void least() {
    says("of one place the least; If there is none, likewise: TWICE, NAME, WRONG");
    bad("being b |100; being b 1;", 5);
    bad("trait b; being |b 100 c;", 3);
    bad("being b 1 |c; being b 100;", 4);
    bad("being b |100 c;", 5);
    bad("bridge b |100 100 = c;", 5);
    bad("bridge b 1 |100 = c;", 5);
    bad("bridge b 1 0 = |c or d; storm 101;", 4);
    says("SYNTAX and ROOM come ahead of TWICE, NAME, WRONG, wherever they stand");
    bad("trait a; trait a; |?", 1);
    bad("being b 100 c; |?", 1);
    bad("trait ta; being ta 100 x;" + many("trait", 7, ";") + "|trait x;", 2);
    bad("storm 101; wears=((((((|(1", 2);
    bad("storm 101; seed|", 1);
  }

  private static final String TOWN =
      "trait s; trait t; being p 5 s; being q 6 t; way w 2 gives t; bridge b 9 4 = s; bridge c 8 3 = t;"
          + "wears = 2; mends = 3; asks = 4; storm 100; seed 7;";

  /** All that can be told of an object, but for the latest FAULT's place. */
  static String state(FirstOver x) {
    StringBuilder told = new StringBuilder();
    for (int what = 0; what < 16; what++) {
      told.append(x.count(what)).append(' ');
    }
    for (int i = 0; i < 8; i++) {
      for (int what = 0; what < 7; what++) {
        told.append(x.being(i, what)).append(' ').append(x.way(i, what)).append(' ');
        told.append(x.bridge(i, what)).append(' ').append(x.asks(i, what)).append(' ');
      }
      for (int set = 0; set < 256 && i < x.count(3); set++) {
        told.append(x.holds(i, set));
      }
      for (int being = 0; being < x.count(1); being++) {
        told.append(x.taken(i, being, -1));
      }
      for (int k = 0; k <= x.count(13); k++) {
        told.append(x.went(i, k)).append(' ');
      }
      told.append(x.stonesIn(i, 3)).append('\n');
    }
    return told.toString();
  }

  private static FirstOver lived() {
    FirstOver x = Checks.of(TOWN);
    x.hold(1);
    x.send(0, 0, -1);
    x.send(1, 1, -1);
    x.mend(0);
    x.years(2);
    x.hold(2);
    x.tell(0, true);
    x.tell(1, false);
    return x;
  }

  private static void changesNothing() {
    says("A text with a FAULT changes nothing but the tape");
    String[] texts = {
      "wears = 9; mends = 9; asks = 9; storm 0; seed 1; trait x; ?",
      many("trait", 8, ";") + "wears = 9; trait x;",
      "wears = 9; storm 0; trait x; trait x;",
      "bridge d 50 50 = nobody; wears = 9;",
      "mends = 9; asks = 9; being z 100; trait a; trait b; trait c; bridge d 1 1 = a;"
    };
    for (int i = 0; i < texts.length; i++) {
      FirstOver x = lived();
      String ahead = state(x);
      Checks.put(x, texts[i]);
      due("read()", x.read(), i + 1);
      due("nothing is changed by FAULT " + (i + 1), state(x).equals(ahead), true);
      due("the tape is empty", x.count(11), 0);
      due("it can be undone still", x.undo(), true);
      due("held still", x.restore(1), true);
      due("held still", x.restore(2), true);
    }
  }

  private static void due(String what, boolean got, boolean want) {
    CHECKS.due(what, got, want);
  }

  private static void inPlace() {
    says("else it is in place of the one ahead: year 0, all BEINGS there, no BRIDGE OPEN, nothing lost, nothing"
        + " learnt; nothing can be undone, nothing is TOLD, SLOTS hold nothing");
    for (String text : new String[] {TOWN, "", "trait s; being p 1 s; bridge b 1 0 = s;", FULL}) {
      FirstOver x = lived();
      Checks.put(x, text);
      due("read()", x.read(), 0);
      due("as a new one", state(x).equals(state(Checks.of(text))), true);
      due("the year", x.count(4), 0);
      due("all there", x.count(8), (1 << x.count(1)) - 1);
      due("none OPEN", x.count(6), 0);
      due("none FALLEN", x.count(7), 0);
      due("nothing lost", x.count(5), 0);
      due("nothing learnt", x.count(9), 0);
      due("never CHEATED", x.count(10), 0);
      due("nothing to undo", x.undo(), false);
      due("nothing TOLD", x.forget(), 0);
      for (int slot = 0; slot < 3; slot++) {
        due("SLOT " + slot, x.restore(slot), false);
      }
    }
  }

  /** Whatever was read ahead, good or not, a text is read as by a new object. */
  private static void readBehindOthers() {
    says("else it is in place of the one ahead");
    String[] texts = {
      "",
      TOWN,
      FULL + "wears = 1 / 0; mends = 1 / 0; asks = 1 / 0; storm 100; seed 9999;",
      "trait s; being p 9 s; bridge b 9 9 = s;",
      "wears = 3 + 1; wears = 2;",
      "trait a; trait b; being c 1 b; way d 1 gives b; bridge e 4 4 = b; wears = 7; mends = 7; asks = 7; storm 9; ?",
      FULL + "wears = 1 / 0; trait x;",
      "trait s; trait p; trait b; trait x; trait x; storm 50; mends = 1 / 0;",
      "bridge z 1 1 = nobody; wears = (1 / 0) / 0; seed 50;",
    };
    String[] alone = new String[texts.length];
    for (int i = 0; i < texts.length; i++) {
      FirstOver x = new FirstOver();
      Checks.put(x, texts[i]);
      alone[i] = x.read() == 0 ? state(x) : "";
    }
    for (int first = 0; first < texts.length; first++) {
      for (int next = 0; next < texts.length; next++) {
        for (int last = 0; last < texts.length; last++) {
          FirstOver x = new FirstOver();
          String then = state(x);
          for (int i : new int[] {first, next, last}) {
            Checks.put(x, texts[i]);
            due("read() of " + i, x.read() == 0, alone[i].length() > 0);
            then = alone[i].length() > 0 ? alone[i] : then;
            due("text " + i + " of " + first + ", " + next + ", " + last, state(x).equals(then), true);
          }
        }
      }
    }
  }

  // ---- II

  /** BRIDGE 0 (20 STONES, LOAD 13), BRIDGE 1 (8, 5); BEINGS 7 {s}, 30 {}, 99 {s t}. */
  private static FirstOver withLaw(String law) {
    return Checks.of("trait s; trait t; being p 7 s; being q 30; being r 99 s t; bridge b 20 13 = s; bridge c 8 5 = s;"
        + law + ";");
  }

  private static void wears(String law, int want) {
    due("wears = " + law, withLaw("wears = " + law).bridge(1, 4), want);
  }

  private static void mends(String law, int want) {
    due("mends = " + law, withLaw("mends = " + law).bridge(1, 5), want);
  }

  private static void asks(String law, int being, int want) {
    due("asks = " + law, withLaw("asks = " + law).asks(1, being), want);
  }

  private static void lawsAndIfs() {
    says("the E of the first if that holds (one less than the other), else the last one");
    wears("if 4 < 5 then 6 else 7", 6);
    wears("if 5 < 5 then 6 else 7", 7);
    wears("if 6 < 5 then 6 else 7", 7);
    wears("if 0 - 1 < 0 then 6 else 7", 6);
    for (int holds = 1; holds <= 5; holds++) {
      StringBuilder law = new StringBuilder();
      for (int i = 1; i <= 4; i++) {
        law.append(i < holds ? "if 1 < 1 then " : "if 0 < 1 then ").append(i).append(" else ");
      }
      wears(law + "5", holds);
      mends(law + "5", holds);
      asks(law + "5", 0, holds);
    }
    says("E: PART {('+' | '-') PART}. PART: UNIT {('*' | '/') UNIT}.");
    wears("9 - 4 - 3", 2);
    wears("9 - (4 - 3)", 8);
    wears("8 / 4 / 2", 1);
    wears("8 / (4 / 2)", 4);
    wears("2 + 3 * 2 - 1", 7);
    wears("9 / 2 * 2", 8);
    wears("9 - (8 - (7 - (6 - (5 - (4 - 3)))))", 6);
    wears("((1 + 2) * (3 - 1) - (4 / 2)) * 2", 8);
  }

  private static void wraps() {
    says("ints of 32 bits that wrap");
    String most = "(8192 * 8192 * 32 - 1)";
    String least = "(0 - 8192 * 8192 * 32)";
    wears("if 0 < " + most + " then 1 else 2", 1);
    wears("if " + most + " + 1 < 0 then 1 else 2", 1);
    wears("if " + least + " < 0 then 1 else 2", 1);
    wears("if 0 < " + least + " - 1 then 1 else 2", 1);
    wears("if " + least + " < " + most + " then 1 else 2", 1);
    wears("if " + most + " < " + least + " then 1 else 2", 2);
    wears("8192 * 8192 * 64 + 3", 3);
    wears(most + " + " + most + " + 7", 5);
    wears("if " + least + " / (0 - 1) < 0 then 1 else 2", 1);
    wears(most + " * " + most + " + 4", 5);
    wears("9999 * 9999 * 9999", 0);
    mends("9999 * 9999 * 9999 * 3", 99);
    says("/ rounded towards 0");
    wears("5 + (0 - 7) / 2", 2);
    wears("5 + 7 / (0 - 2)", 2);
    wears("5 + (0 - 7) / (0 - 2)", 8);
    wears("5 + (0 - 1) / 2", 5);
    wears("7 / 8", 0);
    wears("8 / 8", 1);
  }

  private static void divisions() {
    says("a LAW in which something that is looked at is divided by 0 is 0");
    wears("5 / 0", 0);
    wears("0 / 0", 0);
    wears("5 + 5 / 0", 0);
    wears("5 / 0 + 5", 0);
    wears("5 + 0 * (1 / 0)", 0);
    wears("5 + 1 / (1 - 1)", 0);
    wears("if 1 / 0 < 5 then 6 else 7", 0);
    wears("if 1 < 5 / 0 then 6 else 7", 0);
    wears("if 1 < 5 then 6 / 0 else 7", 0);
    wears("if 5 < 1 then 6 else 7 / 0", 0);
    wears("if 5 < 1 then 6 else if 1 / 0 < 1 then 7 else 8", 0);
    says("looked at");
    wears("if 5 < 1 then 6 / 0 else 7", 7);
    wears("if 1 < 5 then 6 else 7 / 0", 6);
    wears("if 1 < 5 then 6 else if 1 / 0 < 1 then 7 else 8 / 0", 6);
    wears("if 5 < 1 then 1 / 0 else if 1 < 5 then 7 else if 1 < 1 / 0 then 8 else 9", 7);
    mends("50 + 1 / 0", 0);
    asks("50 + 1 / 0", 0, 0);
    wears("5 / (stones - 8)", 0);
    wears("5 / (stones - 7)", 5);
  }

  private static void vars() {
    says("stones, load, which: its STONES as they are, its LOAD, number");
    wears("stones", 8);
    wears("load", 5);
    wears("which", 1);
    due("which 0", withLaw("wears = which").bridge(0, 4), 0);
    FirstOver x = withLaw("wears = stood * 4 + open; mends = year * 10 + learnt; asks = stones");
    says("stood: for how many years it is OPEN; year; open: how many BRIDGES are OPEN");
    due("none OPEN", x.bridge(0, 4), 0);
    due("year 0", x.bridge(0, 5), 0);
    x.years(2);
    due("not OPEN: not stood", x.bridge(0, 4), 0);
    due("year 2", x.bridge(0, 5), 20);
    x.send(0, 0, -1);
    due("one OPEN", x.bridge(0, 4), 1);
    due("one OPEN, of the other", x.bridge(1, 4), 1);
    x.years(1);
    due("stood for one", x.bridge(0, 4), 5);
    due("the other has not", x.bridge(1, 4), 1);
    due("STONES as they are", x.asks(0, 1), 19);
    due("year 3", x.bridge(1, 5), 30);
    x.send(1, 2, -1);
    due("two OPEN", x.bridge(0, 4), 6);
    due("two OPEN, not stood", x.bridge(1, 4), 2);
    says("learnt: how many sets the builder has learnt");
    FirstOver y = Checks.of("trait s; being p 1; bridge b 9 0 = not s; wears = learnt * 3; mends = learnt; asks = learnt;");
    due("none", y.bridge(0, 4), 0);
    y.send(0, 0, -1);
    due("one", y.bridge(0, 4), 3);
    due("one", y.bridge(0, 5), 1);
    due("one", y.asks(0, 0), 1);
    says("loss, many: 0, but for ASKS: LOSS and how many TRAITS of a BEING");
    wears("loss + many", 0);
    mends("loss + many", 0);
    wears("5 + loss + 2 * many", 5);
    mends("50 + loss + 2 * many", 50);
    asks("loss", 0, 7);
    asks("loss", 1, 30);
    asks("many", 0, 1);
    asks("many", 1, 0);
    asks("many", 2, 2);
    FirstOver z = withLaw("wears = loss + many; mends = loss + many");
    z.asks(0, 2);
    due("not from an ASKS ahead", z.bridge(0, 4), 0);
    z.asks(0, 2);
    due("not from an ASKS ahead", z.bridge(0, 5), 0);
    says("Of a BRIDGE: whichever was looked at ahead");
    FirstOver w = withLaw("wears = which + 1; mends = which + 1; asks = which + 1");
    for (int ahead = 0; ahead < 2; ahead++) {
      for (int bridge = 0; bridge < 2; bridge++) {
        w.bridge(ahead, 4);
        due("MENDS behind WEARS", w.bridge(bridge, 5), bridge + 1);
        w.bridge(ahead, 5);
        due("ASKS behind MENDS", w.asks(bridge, 0), bridge + 1);
        w.asks(ahead, 0);
        due("WEARS behind ASKS", w.bridge(bridge, 4), bridge + 1);
      }
    }
    w.send(0, 0, -1);
    w.send(1, 2, -1);
    w.bridge(0, 4);
    w.mend(1);
    due("lost by MENDS of the second", w.count(5), 7 + 99 + 2);
  }

  private static void held() {
    says("WEARS, held to 0 .. 9; MENDS, held to 0 .. 99; ASKS, held to 0 .. 99");
    wears("0", 0);
    wears("0 - 1", 0);
    wears("9", 9);
    wears("10", 9);
    wears("8192 * 8192 * 32", 0);
    wears("8192 * 8192 * 32 - 1", 9);
    mends("0", 0);
    mends("0 - 1", 0);
    mends("99", 99);
    mends("100", 99);
    mends("8192 * 8192 * 32", 0);
    asks("0", 0, 0);
    asks("0 - 1", 0, 0);
    asks("loss", 2, 99);
    asks("loss + 1", 2, 99);
    asks("8192 * 8192 * 32", 0, 0);
    asks("8192 * 8192 * 32 - 1", 0, 99);
  }

  /** LOT n, written with longs. */
  private static long lot(long n, long seed, long which) {
    long mask = 0xFFFFFFFFL;
    long h = seed;
    for (long by : new long[] {109, which}) {
      h = ((h ^ by) * 1103515245L + 12345L) & mask;
      h = h ^ (h >> 15);
    }
    return (h >> 1) % n;
  }

  private static void lots() {
    says("LOT 100 of the SEED and 4 * the year is less than how many");
    for (int seed : new int[] {0, 1, 9998, 9999}) {
      for (int year : new int[] {0, 1, 59, 60, 1000}) {
        long lot = lot(100, seed, 4L * year);
        due("just not", gone(good("storm " + lot + "; seed " + seed + ";"), year).count(15), 0);
        due("just so", gone(good("storm " + (lot + 1) + "; seed " + seed + ";"), year).count(15), 1);
      }
    }
    FirstOver never = good("storm 0;");
    FirstOver always = good("storm 100;");
    for (int year = 0; year < 70; year++) {
      due("never", never.count(15), 0);
      due("always", always.count(15), 1);
      never.years(1);
      always.years(1);
    }
  }

  private static void sets() {
    says("a set of TRAITS: its own, and what the WAY gives more, drops");
    FirstOver x =
        good("trait s; trait a; being p 1 s; being q 1 s a; being r 1; way g 1 gives a; way d 1 drops s; way n 1;"
            + "way both 1 gives a drops s;");
    int[][] due = {{1, 3, 0, 1, 2}, {3, 3, 2, 3, 2}, {0, 2, 0, 0, 2}};
    for (int being = 0; being < 3; being++) {
      for (int way = -1; way < 4; way++) {
        due("set(" + being + ", " + way + ")", x.set(being, way), due[being][way + 1]);
      }
    }
    says("one behind the other; of one that it does both the last told counts");
    FirstOver y = good("trait s; being p 1; being q 1 s; way g 1 drops s gives s; way d 1 gives s drops s;");
    due("given last", y.set(0, 0), 1);
    due("given last", y.set(1, 0), 1);
    due("dropped last", y.set(0, 1), 0);
    due("dropped last", y.set(1, 1), 0);
  }

  private static void clausesHold() {
    says("A CLAUSE holds for a set as its words say ('not' before 'and' before 'or')");
    FirstOver x =
        good("trait a; trait b; trait c; bridge p 1 0 = not a and b or c; bridge q 1 0 = not (a and b) or c;"
            + "bridge r 1 0 = a or b and not c; bridge t 1 0 = (a or b) and not c;");
    int[][] due = {{0, 0, 1, 0, 1, 1, 1, 1}, {1, 1, 1, 0, 1, 1, 1, 1}, {0, 1, 1, 1, 0, 1, 0, 1}, {0, 1, 1, 1, 0, 0, 0, 0}};
    for (int bridge = 0; bridge < 4; bridge++) {
      int many = 0;
      for (int set = 0; set < 8; set++) {
        due("holds(" + bridge + ", " + set + ")", x.holds(bridge, set), due[bridge][set]);
        many += due[bridge][set];
      }
      due("sets of " + bridge, x.bridge(bridge, 6), many);
    }
    ofEight();
    says("a CLAUSE that holds for no set, for all");
    FirstOver y = good("trait a; bridge p 1 0 = a and not a; bridge q 1 0 = a or not a;");
    due("for none", y.bridge(0, 6), 0);
    due("for all", y.bridge(1, 6), 2);
    FirstOver z = good(many("trait", 8, ";") + "bridge p 1 0 = ta or not ta; bridge q 1 0 = th and not th;");
    due("for all 256", z.bridge(0, 6), 256);
    due("for none of 256", z.bridge(1, 6), 0);
    due("the last set", z.holds(0, 255), 1);
  }

  private static void ofEight() {
    says("A CLAUSE of eight TRAITS, for each of their 256 sets");
    FirstOver x = good(many("trait", 8, ";") + "bridge p 1 0 = ta or tb and (tc or not td and th) or tg and not (te or tf);"
        + "bridge q 1 0 = th and (tg or (tf and (te or not td))) and not (ta and tb and tc);");
    int first = 0;
    int second = 0;
    for (int set = 0; set < 256; set++) {
      boolean[] has = new boolean[8];
      for (int trait = 0; trait < 8; trait++) {
        has[trait] = (set >> trait & 1) != 0;
      }
      boolean p = has[0] || has[1] && (has[2] || !has[3] && has[7]) || has[6] && !(has[4] || has[5]);
      boolean q = has[7] && (has[6] || has[5] && (has[4] || !has[3])) && !(has[0] && has[1] && has[2]);
      due("holds(0, " + set + ")", x.holds(0, set), p ? 1 : 0);
      due("holds(1, " + set + ")", x.holds(1, set), q ? 1 : 0);
      first += p ? 1 : 0;
      second += q ? 1 : 0;
    }
    due("bridge(0, 6)", x.bridge(0, 6), first);
    due("bridge(1, 6)", x.bridge(1, 6), second);
    for (int traits = 1; traits <= 8; traits++) {
      String told = many("trait", traits, ";");
      FirstOver y = good(told + "bridge p 1 0 = ta or not ta; bridge q 1 0 = ta;");
      due("for all sets of " + traits, y.bridge(0, 6), 1 << traits);
      due("for half the sets of " + traits, y.bridge(1, 6), 1 << traits - 1);
      due("for half the sets of " + traits, y.alike(0, 1, 1), 1 << traits - 1);
      due("the last set", y.holds(0, (1 << traits) - 1), 1);
      due("no such set", y.holds(0, 1 << traits), -1);
    }
    // TRAITS that are told behind the BRIDGES make more sets, for which their CLAUSES hold as well.
    FirstOver z = good("trait a; bridge p 1 0 = not a; trait c; bridge q 1 0 = not a or a and c; trait d;");
    due("behind it: half the sets", z.bridge(0, 6), 4);
    due("behind it: three of four", z.bridge(1, 6), 6);
    due("behind it: both", z.alike(0, 1, 1), 4);
    due("behind it: not alike", z.alike(0, 1, 0), 0);
    for (int set = 0; set < 8; set++) {
      due("behind it: holds(0, " + set + ")", z.holds(0, set), set % 2 == 0 ? 1 : 0);
      due("behind it: holds(1, " + set + ")", z.holds(1, set), set % 2 == 0 || set % 4 == 3 ? 1 : 0);
    }
  }

  private static void sent() {
    says("if the set is TAKEN, the BRIDGE is OPEN, the BEING is gone, its LOSS and the WAY's COST are lost");
    FirstOver x = good("trait s; being p 99 s; being q 98 s; way w 99; bridge b 1 0 = s; bridge c 1 0 = not s;");
    due("TAKEN", x.send(0, 0, 0), 1);
    due("OPEN", x.bridge(0, 2), 1);
    due("gone", x.being(0, 2), 0);
    due("lost", x.count(5), 198);
    due("with a soul no STONE is out", x.bridge(0, 0), 1);
    due("nothing learnt", x.count(9), 0);
    says("If the set is not TAKEN, the WAY's COST is lost alone");
    due("not TAKEN", x.send(1, 1, 0), 0);
    due("lost", x.count(5), 297);
    due("there", x.being(1, 2), 1);
    due("not OPEN", x.bridge(1, 2), 0);
    due("not TAKEN without a WAY", x.send(1, 1, -1), 0);
    due("lost", x.count(5), 297);
    says("CHEATED: a STONE of the BRIDGE is out; a BRIDGE without STONES is FALLEN");
    for (int stones = 1; stones <= 3; stones++) {
      FirstOver y = good("trait s; being p 3; being q 4; bridge b " + stones + " 0 = not s;");
      due("CHEATED", y.send(0, 0, -1), 2);
      due("STONES", y.bridge(0, 0), stones - 1);
      due("FALLEN", y.bridge(0, 2), stones == 1 ? 2 : 1);
      due("OPEN ones", y.count(6), stones == 1 ? 0 : 1);
      due("FALLEN ones", y.count(7), stones == 1 ? 1 : 0);
      due("the BEING is gone", y.being(0, 2), 0);
      due("lost", y.count(5), 3);
      due("learnt", y.count(9), 1);
      due("CHEATED", y.count(10), 1);
      says("A BEING is SENT over a BRIDGE that is not OPEN (nor FALLEN)");
      due("OPEN, FALLEN", y.send(0, 1, -1), -2);
      due("lost as ahead", y.count(5), 3);
    }
  }

  private static void learns() {
    says("he learns the set; TAKEN: it is none that the builder has learnt");
    FirstOver x =
        good("trait s; trait t; being p 1 t; being q 1; being r 1 t; being u 1 s t; way g 5 gives t; way d 2 drops t;"
            + "bridge b 9 0 = t; bridge c 9 0 = t or not s; bridge e 9 0 = t; bridge f 9 0 = not s;");
    due("CHEATED", x.send(0, 0, -1), 2);
    due("the same set of another", x.taken(1, 2, -1), 2);
    due("the same set by a WAY", x.taken(1, 1, 0), 2);
    due("another set", x.taken(1, 1, -1), 0);
    due("another set of the same BEING", x.taken(1, 2, 1), 0);
    due("with a soul", x.taken(1, 3, -1), 0);
    due("where the CLAUSE does not hold", x.taken(3, 3, -1), 1);
    due("a learnt set is not TAKEN", x.send(1, 2, -1), 0);
    due("nor by a WAY, whose COST is lost", x.send(1, 1, 0), 0);
    due("lost", x.count(5), 6);
    due("learnt once", x.count(9), 1);
    due("CHEATED once", x.count(10), 1);
    says("a set with a soul is not learnt");
    due("with a soul", x.send(2, 3, -1), 1);
    due("learnt", x.count(9), 1);
    says("9 at most: each BRIDGE is sent over once, so four at most");
    due("CHEATED", x.send(1, 2, 1), 2);
    due("the empty set is learnt", x.taken(3, 1, -1), 2);
    due("learnt", x.count(9), 2);
  }

  private static void mended() {
    says("A BRIDGE that is OPEN is MENDED: a STONE more (99 at most), what MENDS tells is lost");
    FirstOver x = good("trait s; being p 0 s; being q 0; bridge b 98 0 = s; bridge c 1 0 = not s; mends = 99;");
    due("not OPEN", x.mend(0), -2);
    x.send(0, 0, -1);
    due("to 99", x.mend(0), 99);
    due("lost", x.count(5), 99);
    due("99 at most", x.mend(0), -2);
    due("lost as ahead", x.count(5), 99);
    due("STONES as ahead", x.bridge(0, 0), 99);
    x.send(1, 1, -1);
    due("FALLEN", x.bridge(1, 2), 2);
    due("FALLEN is not MENDED", x.mend(1), -2);
    due("STONES", x.bridge(1, 0), 0);
  }

  private static FirstOver opened(String text) {
    FirstOver x = Checks.of("trait s; being p 0 s; being q 0 s; being r 0 s; being u 0 s;" + text);
    for (int bridge = 0; bridge < x.count(3); bridge++) {
      due("OPEN", x.send(bridge, bridge, -1), 1);
    }
    return x;
  }

  private static void yearsGoBy() {
    says("each OPEN BRIDGE has as many STONES less as it WEARS; without STONES it is FALLEN, and no more OPEN");
    for (int stones = 1; stones <= 12; stones++) {
      for (int wears = 0; wears <= 10; wears++) {
        for (int storm = 0; storm <= 1; storm++) {
          FirstOver x = opened("bridge b " + stones + " 0 = s; wears = " + wears + "; storm " + 100 * storm + ";");
          int left = Math.max(0, stones - Math.min(9, wears) - storm);
          due("years(1)", x.years(1), 1);
          due(stones + " less " + wears + " and " + storm, x.bridge(0, 0), left);
          due("OPEN, FALLEN", x.bridge(0, 2), left > 0 ? 1 : 2);
          due("stood", x.bridge(0, 3), 1);
        }
      }
    }
    says("a BRIDGE that is not OPEN does not wear");
    FirstOver x = Checks.of("trait s; bridge b 1 0 = s; storm 100;");
    x.years(60);
    due("STONES", x.bridge(0, 0), 1);
    due("not OPEN", x.bridge(0, 2), 0);
    due("not stood", x.bridge(0, 3), 0);
    says("by how all was");
    FirstOver y = opened("bridge b 3 0 = s; bridge c 9 0 = s; bridge d 9 0 = s; wears = open;");
    y.years(1);
    due("FALLEN", y.bridge(0, 2), 2);
    due("by three OPEN", y.bridge(1, 0), 6);
    due("by three OPEN", y.bridge(2, 0), 6);
    y.years(1);
    due("by two OPEN", y.bridge(1, 0), 4);
    due("by two OPEN", y.bridge(2, 0), 4);
    due("FALLEN stays", y.bridge(0, 2), 2);
    says("then it is the next year");
    FirstOver z = opened("bridge b 99 0 = s; wears = year;");
    z.years(4);
    due("0 and 1 and 2 and 3 less", z.bridge(0, 0), 93);
    FirstOver w = opened("bridge b 99 0 = s; wears = stood * 2;");
    w.years(4);
    due("0 and 2 and 4 and 6 less", w.bridge(0, 0), 87);
  }

  // ---- III

  private static void isCheap(FirstOver x, int bridge, int lost, int being, int way) {
    due("cheap(" + bridge + ", 0)", x.cheap(bridge, 0), lost);
    due("cheap(" + bridge + ", 1)", x.cheap(bridge, 1), being);
    due("cheap(" + bridge + ", 2)", x.cheap(bridge, 2), way);
  }

  private static void cheap() {
    says("TAKEN there with least LOSS and COST, of those there; of alike ones the first BEING, then none, then the"
        + " first WAY");
    String bridge = "bridge b 9 0 = s;";
    isCheap(Checks.of("trait s; being p 3 s; being q 3 s; way v 0; way w 0;" + bridge), 0, 3, 0, 9);
    isCheap(Checks.of("trait s; being p 4 s; being q 3 s; way v 0; way w 0;" + bridge), 0, 3, 1, 9);
    isCheap(Checks.of("trait s; being p 3; being q 3; way u 0; way v 0 gives s; way w 0 gives s;" + bridge), 0, 3, 0, 1);
    isCheap(Checks.of("trait s; being p 3; being q 5 s; way v 3 gives s; way w 2 gives s;" + bridge), 0, 5, 0, 1);
    isCheap(Checks.of("trait s; being p 3; being q 4 s; way v 3 gives s; way w 2 gives s;" + bridge), 0, 4, 1, 9);
    isCheap(Checks.of("trait s; being p 99; way v 99 gives s;" + bridge), 0, 198, 0, 0);
    isCheap(Checks.of("trait s; being p 0 s;" + bridge), 0, 0, 0, 9);
    isCheap(Checks.of("trait s; being p 0;" + bridge), 0, -2, -2, -2);
    isCheap(Checks.of("trait s; way w 0 gives s;" + bridge), 0, -2, -2, -2);
    FirstOver x = Checks.of("trait s; being p 1 s; being q 2 s;" + bridge);
    x.send(0, 0, -1);
    isCheap(x, 0, 2, 1, 9);
    says("TAKEN by what he has learnt");
    FirstOver y = Checks.of("trait s; being p 1; being q 2; being r 9 s; bridge b 9 0 = not s; bridge c 9 0 = s or not s;");
    isCheap(y, 1, 1, 0, 9);
    y.send(0, 0, -1);
    isCheap(y, 0, -2, -2, -2);
    isCheap(y, 1, 9, 2, 9);
  }

  private static void cheats() {
    says("how many BEINGS and WAYS (none too) are TAKEN there without a soul");
    FirstOver x =
        good("trait s; trait t; being p 1; being q 1 t; being r 1 s; way g 1 gives t; way d 1 drops s;"
            + "bridge b 9 0 = t or not t; bridge c 9 0 = t; bridge e 9 0 = s; bridge f 9 0 = s and not s;");
    due("p and q three times, r dropped", x.cheats(0), 7);
    due("p by g, q three times", x.cheats(1), 4);
    due("with a soul all", x.cheats(2), 0);
    due("none", x.cheats(3), 0);
    x.send(2, 2, -1);
    due("of those there", x.cheats(0), 6);
    x.send(1, 1, -1);
    due("{t} learnt, q gone: p, p by d", x.cheats(0), 2);
    due("{t} learnt", x.cheats(1), 0);
    says("7 BEINGS, 4 WAYS: 35");
    due("the most", good(FULL.replace("ta;", "tb or not tb;").replace("trait tb or not tb;", "trait ta;")).cheats(0), 35);
  }

  private static void isAll(FirstOver x, int lost, int... chosen) {
    due("all(-1, 0)", x.all(-1, 0), lost);
    for (int i = 0; i < chosen.length; i++) {
      due("all(" + i / 2 + ", " + i % 2 + ")", x.all(i / 2, i % 2), chosen[i]);
    }
  }

  private static void all() {
    says("for each BRIDGE that is not OPEN (nor FALLEN), one behind the other, another BEING and a WAY");
    String two = "bridge b 9 0 = s; bridge c 9 0 = s;";
    isAll(Checks.of("trait s; being p 3 s;" + two), -2, -2, -2, -2, -2);
    isAll(Checks.of("trait s; being p 3 s; being q 3;" + two), -2, -2, -2, -2, -2);
    isAll(Checks.of("trait s; being p 3 s; being q 4 s;" + two), 7, 0, 9, 1, 9);
    isAll(Checks.of("trait s; being p 3; being q 4 s; being r 9 s; way w 5 gives s;" + two), 12, 0, 0, 1, 9);
    isAll(Checks.of("trait s;" + two), -2, -2, -2);
    isAll(Checks.of("trait s; being p 3 s;"), 0, -1, -1);
    says("LOSS and COST of all are least, though the first BRIDGE's is not");
    isAll(Checks.of("trait s; trait t; being p 1 s t; being q 5 t; bridge b 9 0 = t; bridge c 9 0 = s;"), 6, 1, 9, 0, 9);
    says("by what he has learnt by then");
    isAll(Checks.of("trait s; being p 1; being q 1; being r 50 s; bridge b 9 0 = s or not s; bridge c 9 0 = s or not s;"),
        51, 0, 9, 2, 9);
    isAll(Checks.of("trait s; being p 1; being q 1; bridge b 9 0 = not s; bridge c 9 0 = not s;"), -2, -2, -2, -2, -2);
    isAll(Checks.of("trait s; trait t; being p 1; being q 1; way w 7 gives t; bridge b 9 0 = not s; bridge c 9 0 = not s;"),
        9, 0, 9, 1, 0);
    says("of alike ones the first by the first BRIDGE's BEING, its WAY (none first), then the next one's");
    isAll(Checks.of("trait s; being p 2 s; being q 2 s; being r 2 s; way v 0; way w 0;" + two), 4, 0, 9, 1, 9);
    isAll(Checks.of("trait s; being p 2; being q 2; being r 2 s; way v 0 gives s; way w 0 gives s;" + two), 4, 0, 0, 1, 0);
    isAll(Checks.of("trait s; being p 2; being q 3; being r 2; way v 1 gives s; way w 1 gives s;" + two), 6, 0, 0, 2, 0);
    for (int one = 0; one < 5; one++) {
      for (int other = 0; other < 5; other++) {
        String ways = "way v " + one + " gives s; way w " + other + " gives s;";
        int least = 5 + Math.min(one, other);
        int way = other < one ? 1 : 0;
        isAll(Checks.of("trait s; being p 5;" + ways + "bridge b 9 0 = s;"), least, 0, way);
        isAll(Checks.of("trait s; being p 5; being q 5;" + ways + two), 2 * least, 0, way, 1, way);
        isAll(Checks.of("trait s; being p 5 s;" + ways + "bridge b 9 0 = s;"), 5, 0, 9);
        isCheap(Checks.of("trait s; being p 5;" + ways + "bridge b 9 0 = s;"), 0, least, 0, way);
      }
    }
    says("four BRIDGES");
    isAll(Checks.of("trait s; trait a; trait b; being p 1 a; being q 2 b; being r 3 a b; being u 4; being v 90 s a b;"
        + "bridge c 9 0 = not s; bridge d 9 0 = not s; bridge e 9 0 = not s; bridge f 9 0 = a or b;"), 10,
        0, 9, 1, 9, 3, 9, 2, 9);
    says("-3: it is OPEN, FALLEN; -2: it can't be (looked at behind -3); NONE (looked at first)");
    FirstOver x = Checks.of("trait s; being p 3 s; being q 4; being r 5 s; bridge b 9 0 = s; bridge c 1 0 = not s; bridge d 9 0 = s;");
    x.send(0, 0, -1);
    x.send(1, 1, -1);
    due("OPEN", x.all(0, 0), -3);
    due("OPEN", x.all(0, 1), -3);
    due("OPEN, no such what", x.all(0, 2), -1);
    due("FALLEN", x.all(1, 0), -3);
    due("the third", x.all(2, 0), 2);
    due("it alone", x.all(-1, 0), 5);
    x.send(2, 2, -1);
    due("no BRIDGE left", x.all(-1, 0), 0);
    allOfSome();
  }

  private static void allOfSome() {
    says("for each BRIDGE that is not OPEN (nor FALLEN), whichever of four these are");
    String four = "trait s; being p 6 s; being q 5 s; being r 4 s; being u 3 s; being v 2 s; being w 1 s; being x 0 s;"
        + "bridge b 9 0 = s; bridge c 9 0 = s; bridge d 9 0 = s; bridge e 9 0 = s;";
    for (int open = 0; open < 16; open++) {
      FirstOver x = Checks.of(four);
      int left = 0;
      for (int bridge = 0; bridge < 4; bridge++) {
        if ((open >> bridge & 1) != 0) {
          x.send(bridge, bridge, -1);
        } else {
          left++;
        }
      }
      // The cheapest are 0, 1, 2, 3; of alike ones the first BEING (who costs most) is first.
      due("all(-1, 0)", x.all(-1, 0), left * (left - 1) / 2);
      int being = 7 - left;
      for (int bridge = 0; bridge < 4; bridge++) {
        boolean isOpen = (open >> bridge & 1) != 0;
        due("all(" + bridge + ", 0) of " + open, x.all(bridge, 0), isOpen ? -3 : being);
        due("all(" + bridge + ", 1) of " + open, x.all(bridge, 1), isOpen ? -3 : 9);
        being += isOpen ? 0 : 1;
      }
      says("behind a text of more BRIDGES");
      Checks.put(x, "trait s; being p 1 s; being q 1 s; bridge b 9 0 = s; bridge c 9 0 = s;");
      due("read()", x.read(), 0);
      isAll(x, 2, 0, 9, 1, 9);
    }
  }

  private static void bar() {
    says("the TRAIT, by which, were each set that has it not TAKEN, most of the CHEATS there are shut out; of alike"
        + " ones the first");
    FirstOver x =
        good("trait s; trait a; trait b; trait c; being p 1 a b; being q 1 b; being r 1 c; being u 1 c; bridge x 9 0 = not s;"
            + "bridge y 9 0 = b; bridge z 9 0 = s; bridge v 9 0 = a or c;");
    due("b and c alike: the first", x.bar(0, 0), 2);
    due("two of four", x.bar(0, 1), 2);
    due("b shuts both out", x.bar(1, 0), 2);
    due("both", x.bar(1, 1), 2);
    due("no CHEATS: the first TRAIT", x.bar(2, 0), 0);
    due("no CHEATS", x.bar(2, 1), 0);
    due("c shuts two of three out", x.bar(3, 0), 3);
    due("two", x.bar(3, 1), 2);
    says("CHEATS of BEINGS that are there, by sets not learnt");
    x.send(3, 2, -1);
    due("{c} is learnt", x.bar(0, 0), 2);
    due("of the two left", x.bar(0, 1), 2);
    due("none has but {a b}", x.bar(3, 0), 1);
    due("one", x.bar(3, 1), 1);
    FirstOver y = good("trait s; being p 1; bridge x 9 0 = not s;");
    due("the empty set is shut out by none", y.bar(0, 0), 0);
    due("the empty set is shut out by none", y.bar(0, 1), 0);
  }

  private static void isShut(String beings, String clause, int... traits) {
    FirstOver x = Checks.of("trait s; trait a; trait b; trait c; trait d; trait e; trait f; trait g;" + beings
        + "bridge x 9 0 = " + clause + ";");
    due("shuts(0, -1) of " + beings, x.shuts(0, -1), traits.length);
    for (int i = 0; i < 3; i++) {
      due("shuts(0, " + i + ") of " + beings, x.shuts(0, i), i < traits.length ? traits[i] : -1);
    }
  }

  private static void isNotShut(String beings, String clause) {
    FirstOver x = Checks.of("trait s; trait a; trait b; trait c; trait d; trait e; trait f; trait g;" + beings
        + "bridge x 9 0 = " + clause + ";");
    for (int i = -1; i < 3; i++) {
      due("shuts(0, " + i + ") of " + beings, x.shuts(0, i), -2);
    }
    due("shuts(0, 3) of " + beings, x.shuts(0, 3), -1);
    due("shuts(0, -2) of " + beings, x.shuts(0, -2), -1);
  }

  private static void shuts() {
    says("the fewest TRAITS (0 .. 3) by which, likewise, all CHEATS there are shut out");
    isShut("", "not s");
    isShut("being p 1 s;", "s");
    isShut("being p 1 g;", "not s", 7);
    isShut("being p 1 f g;", "not s", 6);
    isShut("being p 1 f; being q 1 g;", "not s", 6, 7);
    isShut("being p 1 e; being q 1 f; being r 1 g;", "not s", 5, 6, 7);
    isNotShut("being p 1 d; being q 1 e; being r 1 f; being u 1 g;", "not s");
    isNotShut("being p 1;", "not s");
    isNotShut("being p 1; being q 1 a;", "not s");
    isShut("being p 1 a d; being q 1 b d; being r 1 c d; being u 1 e; being v 1 f;", "not s", 4, 5, 6);
    says("of alike ones the first by the least TRAIT, then the next one");
    isShut("being p 1 a b c;", "not s", 1);
    isShut("being p 1 a c; being q 1 b d;", "not s", 1, 2);
    isShut("being p 1 b d; being q 1 a c; being r 1 c d;", "not s", 1, 4);
    isShut("being p 1 a e; being q 1 b f; being r 1 c g;", "not s", 1, 2, 3);
    isShut("being p 1 a g; being q 1 b g; being r 1 c f; being u 1 d f;", "not s", 6, 7);
  }

  private static void stands() {
    says("behind how many YEARS (1 .. 200) an OPEN BRIDGE is FALLEN, without STORMS");
    due("one", opened("bridge b 1 0 = s;").stands(0), 1);
    due("one, of more WEARS", opened("bridge b 9 0 = s; wears = 9;").stands(0), 1);
    due("two", opened("bridge b 10 0 = s; wears = 9;").stands(0), 2);
    due("99", opened("bridge b 99 0 = s; storm 100;").stands(0), 99);
    due("for good", opened("bridge b 1 0 = s; wears = 0; storm 100;").stands(0), -2);
    due("200", opened("bridge b 1 0 = s; wears = year - 198;").stands(0), 200);
    due("201", opened("bridge b 1 0 = s; wears = year - 199;").stands(0), -2);
    due("198", opened("bridge b 99 0 = s; wears = year - year / 2 * 2;").stands(0), 198);
    FirstOver x = opened("bridge b 9 0 = s; bridge c 3 0 = s; wears = open;");
    due("by all that goes on", x.stands(0), 7);
    due("by all that goes on", x.stands(1), 2);
    x.years(2);
    due("FALLEN", x.stands(1), -2);
    due("the rest", x.stands(0), 5);
    due("not OPEN", Checks.of("trait s; bridge b 1 0 = s;").stands(0), -2);
  }

  private static void isFirst(FirstOver x, int which, int later) {
    due("mendFirst(0)", x.mendFirst(0), which);
    due("mendFirst(1)", x.mendFirst(1), later);
  }

  private static void firstToMend() {
    says("the OPEN BRIDGE, of less than 99 STONES");
    isFirst(opened("bridge b 99 0 = s;"), -2, -2);
    isFirst(opened("bridge b 98 0 = s;"), 0, 1);
    isFirst(Checks.of("trait s; bridge b 9 0 = s;"), -2, -2);
    isFirst(opened("bridge b 99 0 = s; bridge c 98 0 = s;"), 1, 1);
    says("which, MENDED once now, is FALLEN most YEARS later, later than now; of alike ones the first");
    isFirst(opened("bridge b 9 0 = s; bridge c 9 0 = s;"), 0, 1);
    isFirst(opened("bridge b 8 0 = s; wears = 9;"), -2, -2);
    isFirst(opened("bridge b 9 0 = s; wears = 9;"), 0, 1);
    isFirst(opened("bridge b 8 0 = s; bridge c 9 0 = s; wears = 9;"), 1, 1);
    isFirst(opened("bridge b 9 0 = s; bridge c 5 0 = s; wears = if which < 1 then 1 else if stones < 6 then 5 else 1;"), 0, 1);
    isFirst(opened("bridge b 9 0 = s; bridge c 5 0 = s; wears = if which < 1 then 1 else if stones < 6 then 5 else stood;"), 1, 2);
    says("for good: latest of all; FALLEN as told for STANDS");
    isFirst(opened("bridge b 9 0 = s; bridge c 5 0 = s; wears = if which < 1 then 1 else if stones < 6 then 1 else 0;"), 1, -3);
    isFirst(opened("bridge b 5 0 = s; bridge c 5 0 = s; wears = if stones < 6 then 1 else 0;"), 0, -3);
    isFirst(opened("bridge b 5 0 = s; wears = 0;"), -2, -2);
    isFirst(opened("bridge b 1 0 = s; wears = if year < 199 then 0 else 1;"), 0, -3);
    isFirst(opened("bridge b 1 0 = s; wears = if year < 198 then 0 else 1;"), 0, 1);
    isFirst(opened("bridge b 1 0 = s; wears = if year < 200 then 0 else 1;"), -2, -2);
    isFirst(opened("bridge b 1 0 = s; wears = if stones < 2 then 1 else (year + 1) / 200;"), 0, -3);
    isFirst(opened("bridge b 1 0 = s; wears = if stones < 2 then 1 else (year + 1) / 199;"), 0, 199);
    says("without STORMS");
    isFirst(opened("bridge b 5 0 = s; wears = if stones < 6 then 1 else 0; storm 100;"), 0, -3);
  }

  private static void alike() {
    says("whether the CLAUSES of two BRIDGES hold for the same sets of TRAITS; for how many they do both");
    FirstOver x = good("trait a; trait b; bridge p 1 0 = a; bridge q 1 0 = a and b or a and not b; bridge r 1 0 = not a;"
        + "bridge t 1 0 = a and not a;");
    int[][] same = {{1, 1, 0, 0}, {1, 1, 0, 0}, {0, 0, 1, 0}, {0, 0, 0, 1}};
    int[][] both = {{2, 2, 0, 0}, {2, 2, 0, 0}, {0, 0, 2, 0}, {0, 0, 0, 0}};
    for (int bridge = 0; bridge < 4; bridge++) {
      for (int other = 0; other < 4; other++) {
        due("alike(" + bridge + ", " + other + ", 0)", x.alike(bridge, other, 0), same[bridge][other]);
        due("alike(" + bridge + ", " + other + ", 1)", x.alike(bridge, other, 1), both[bridge][other]);
      }
    }
    FirstOver y = good(many("trait", 8, ";") + "bridge p 1 0 = ta or not ta; bridge q 1 0 = not (th and not th);"
        + "bridge r 1 0 = ta or tb or tc or td or te or tf or tg or th; bridge t 1 0 = not th or tg;");
    due("alike for all", y.alike(0, 1, 0), 1);
    due("alike for 256", y.alike(0, 1, 1), 256);
    due("but for one", y.alike(0, 2, 0), 0);
    due("but for one", y.alike(2, 0, 1), 255);
    due("three of four", y.alike(0, 3, 1), 192);
  }

  private static void ahead() {
    says("IN n YEARS (0 .. 60): STONES of a BRIDGE; how many are OPEN");
    FirstOver x = opened("bridge b 61 0 = s; bridge c 60 0 = s; bridge d 2 0 = s;");
    for (int n = 0; n <= 60; n++) {
      due("stonesIn(0, " + n + ")", x.stonesIn(0, n), 61 - n);
      due("stonesIn(2, " + n + ")", x.stonesIn(2, n), Math.max(0, 2 - n));
      due("openIn(" + n + ")", x.openIn(n), n < 2 ? 3 : n < 60 ? 2 : 1);
    }
    says("IN n YEARS there are STORMS");
    due("stonesIn", opened("bridge b 61 0 = s; storm 100;").stonesIn(0, 30), 1);
    due("openIn", opened("bridge b 61 0 = s; storm 100;").openIn(31), 0);
    says("STONES of a BRIDGE that is not OPEN");
    due("stonesIn", Checks.of("trait s; bridge b 7 0 = s; storm 100;").stonesIn(0, 60), 7);
  }

  private static void bySeeds() {
    says("YEAR by s SEEDS (1 .. 20) from the text's SEED on: in how many of them an OPEN BRIDGE is OPEN in n YEARS"
        + " (0 .. 60)");
    for (int seed : new int[] {0, 4321}) {
      FirstOver x = opened("bridge b 20 0 = s; wears = 0; storm 33; seed " + seed + ";");
      for (int n = 0; n <= 60; n += 4) {
        int open = 0;
        for (int s = 1; s <= 20; s++) {
          int storms = 0;
          for (int year = 0; year < n; year++) {
            storms += lot(100, seed + s - 1, 4L * year) < 33 ? 1 : 0;
          }
          open += storms < 20 ? 1 : 0;
          due("year(0, " + n + ", " + s + ")", x.year(0, n, s), open);
        }
      }
    }
    says("not OPEN now: 0");
    due("not OPEN", Checks.of("trait s; bridge b 7 0 = s;").year(0, 0, 20), 0);
    FirstOver y = opened("bridge b 1 0 = s;");
    due("OPEN in 0 YEARS", y.year(0, 0, 20), 20);
    due("FALLEN in 1", y.year(0, 1, 20), 0);
    y.years(1);
    due("FALLEN", y.year(0, 0, 20), 0);
  }

  // ---- IV

  private static void told() {
    says("TOLD: that what went over had a TRAIT, or had not; 20 at most, numbered from 0 on; KNOWN by k: the first k");
    FirstOver x =
        good("trait s; trait a; being p 1 s; being q 1 a; being r 1 s a; way g 1 gives a; bridge b 9 0 = s or a;"
            + "bridge c 9 0 = not s and not a;");
    // p {s}, p by g {s a}, q {a}, q by g {a}, r {s a}, r by g {s a}.
    due("all", x.went(0, 0), 6);
    due("none there", x.went(1, 0), 0);
    due("none there", x.sure(1, 0), -2);
    due("none is left", x.ask(1, 0), -2);
    due("s: 4 or 2; a: 5 or 1", x.ask(0, 0), 0);
    for (int i = 0; i < 19; i++) {
      due("told " + i, x.tell(0, true), i);
    }
    due("the 20th", x.tell(1, false), 19);
    due("no 21st", x.tell(1, false), -1);
    due("KNOWN by 0", x.went(0, 0), 6);
    due("KNOWN by 1", x.went(0, 1), 4);
    due("KNOWN by 19", x.went(0, 19), 4);
    due("KNOWN by 20", x.went(0, 20), 1);
    due("this or that one", x.sure(0, 19), -2);
    due("SURE", x.sure(0, 20), 0);
    due("of one left the first TRAIT", x.ask(0, 20), 0);
    due("a: 3 or 1", x.ask(0, 19), 1);
    says("BEINGS of the text (gone or not), for whose sets its CLAUSE holds (learnt or not)");
    x.send(0, 1, -1);
    due("gone and learnt", x.went(0, 0), 6);
    due("forgotten", x.forget(), 20);
    due("told anew", x.tell(0, false), 0);
    due("q twice", x.went(0, 1), 2);
    due("SURE: the BEING, whichever WAY", x.sure(0, 1), 1);
    says("all that is KNOWN is so: had and had not can't be");
    due("told", x.tell(0, true), 1);
    due("none", x.went(0, 2), 0);
    due("none", x.sure(0, 2), -2);
    due("none is left", x.ask(0, 2), -2);
    says("the TRAIT of which, once it is told, fewest are left, at worst; of alike ones the first");
    FirstOver y = good("trait s; trait a; trait b; being p 1 a b; being q 1 a; being r 1 b; being u 1; bridge x 9 0 = not s;");
    due("a and b alike", y.ask(0, 0), 1);
    y.tell(1, true);
    due("b then", y.ask(0, 1), 2);
    says("7 BEINGS, 4 WAYS: 35");
    due("the most", good(FULL.replace("ta;", "tb or not tb;").replace("trait tb or not tb;", "trait ta;")).went(3, 0), 35);
  }
}
