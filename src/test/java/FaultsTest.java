/** Texts and their FAULTS (promises 4 and 5, and the terms of I). */
public final class FaultsTest {
  private static final Checks CHECKS = new Checks("FaultsTest");

  private static void fault(String text, int fault, int place) {
    FirstOver over = new FirstOver();
    Checks.put(over, text);
    CHECKS.due("read() of [" + text + "]", over.read(), fault);
    CHECKS.due("place() of [" + text + "]", over.place(), place);
    CHECKS.due("tape behind [" + text + "]", over.count(11), 0);
  }

  private static void good(String text) {
    fault(text, 0, -1);
  }

  /** The FAULT stands where the text has a |. */
  private static void marked(String text, int fault) {
    int place = text.indexOf('|');
    fault(text.substring(0, place) + text.substring(place + 1), fault, place);
  }

  public static void main(String[] args) {
    tokens();
    syntax();
    room();
    behindThose();
    order();
    nothingChanges();
    CHECKS.end();
  }

  private static void tokens() {
    good("");
    good(" \t\r\n ");
    good("trait a;being b5a;way w9gives a drops a;bridge c1 0=not a;");
    good("trait abcdefgh;");
    good("trait traits; trait nots; trait oran;");
    good("seed 0000; seed 9999;");
    good("\ttrait\na\r;");
    marked("trait |abcdefghi;", 1);
    marked("being b |00001;", 1);
    marked("trait |A;", 1);
    marked("trait a|.", 1);
    marked("trait a; |" + (char) 233, 1);
    marked("trait a; |" + (char) 0, 1);
    marked("trait a|" + (char) 12 + ";", 1);
    marked("trait |trait;", 1);
    marked("trait |many;", 1);
    marked("trait a; being b 1 a |4;", 1);
    marked("wears = 1 |'2;", 1);
    marked("wears = |10000;", 1);
    marked("wears |: 1;", 1);
    marked("wears = 1 |> 2;", 1);
  }

  private static void syntax() {
    marked("|;", 1);
    marked("|x", 1);
    marked("|soul;", 1);
    marked("|5", 1);
    marked("trait|", 1);
    marked("trait   |", 1);
    marked("trait |;", 1);
    marked("trait |5;", 1);
    marked("trait a|", 1);
    marked("trait a |b;", 1);
    marked("being |7;", 1);
    marked("being b|;", 1);
    marked("being b 7 |7;", 1);
    marked("trait a; being b 7 a |gives a;", 1);
    marked("trait a; being b 7 a a a|", 1);
    marked("way w |gives a;", 1);
    marked("trait a; way w 1 |a;", 1);
    marked("trait a; way w 1 gives |;", 1);
    marked("trait a; way w 1 gives a |a;", 1);
    marked("trait a; bridge b 1 |= a;", 1);
    marked("trait a; bridge b 1 1 |a;", 1);
    marked("trait a; bridge b 1 1 |1 = a;", 1);
    marked("trait a; bridge b 1 1 = |;", 1);
    marked("trait a; bridge b 1 1 = a |a;", 1);
    marked("trait a; bridge b 1 1 = a and |or a;", 1);
    marked("trait a; bridge b 1 1 = not |and a;", 1);
    marked("trait a; bridge b 1 1 = a |not a;", 1);
    marked("trait a; bridge b 1 1 = (a|;", 1);
    marked("trait a; bridge b 1 1 = (|);", 1);
    marked("trait a; bridge b 1 1 = a|);", 1);
    marked("trait a; bridge b 1 1 = a |+ a;", 1);
    marked("trait a; bridge b 1 1 = |1;", 1);
    marked("trait a; bridge b 1 1 = |stones;", 1);
    marked("wears |1;", 1);
    marked("wears = |;", 1);
    marked("wears = |- 1;", 1);
    marked("wears = 1 + |;", 1);
    marked("wears = 1 |< 2;", 1);
    marked("wears = 1 |2;", 1);
    marked("wears = |a;", 1);
    marked("wears = (1|;", 1);
    marked("wears = (|if 1 < 2 then 3 else 4);", 1);
    marked("wears = 1 |if 1 < 2 then 3 else 4;", 1);
    marked("wears = if 1 |then 3 else 4;", 1);
    marked("wears = if 1 < 2 |< 3 then 3 else 4;", 1);
    marked("wears = if 1 < 2 then 3|;", 1);
    marked("wears = if 1 < 2 then 3 else |;", 1);
    marked("wears = if 1 < 2 then |if 1 < 2 then 1 else 2 else 3;", 1);
    marked("wears = 1 |else 2;", 1);
    marked("storm |a;", 1);
    marked("storm 1 |1;", 1);
    marked("seed|", 1);
    marked("seed 1|", 1);
    good("wears = if 1 < 2 then 3 else if 2 < 3 then 4 else 5;");
    good("asks = ((stones + load) * year - stood / which) + loss * many - open / (learnt);");
    good("trait a; trait b; bridge c 1 0 = (a or b) and not (not a and not b) or a;");
  }

  private static String names(String sort, int many, String behind) {
    StringBuilder text = new StringBuilder();
    for (int i = 0; i < many; i++) {
      text.append(sort).append(' ').append(sort.charAt(0)).append((char) ('a' + i)).append(behind);
    }
    return text.toString();
  }

  private static void room() {
    String traits = names("trait", 8, ";");
    good(traits);
    marked(traits + " |trait z;", 2);
    marked(traits + " |trait", 2);
    marked(traits + " |trait ta;", 2);
    good(names("being", 7, " 1;"));
    marked(names("being", 7, " 1;") + "|being z 1;", 2);
    good(names("way", 4, " 1;"));
    marked(names("way", 4, " 1;") + "|way z 1;", 2);
    good("trait a;" + "bridge b 1 0 = a; bridge c 1 0 = a; bridge d 1 0 = a; bridge e 1 0 = a;");
    marked("trait a;" + names("bridge", 4, " 1 0 = a;") + "|bridge z 1 0 = a;", 2);
    String branch = "if 1 < 2 then 3 else ";
    good("wears = " + branch.repeat(4) + "5;");
    marked("wears = " + branch.repeat(4) + "|if 1 < 2 then 3 else 5;", 2);
    marked("wears = " + branch.repeat(4) + "|if", 2);
    good("wears = " + "(".repeat(6) + "1" + ")".repeat(6) + ";");
    marked("wears = " + "(".repeat(6) + "|(1" + ")".repeat(7) + ";", 2);
    good("wears = " + "(".repeat(6) + "1" + ")".repeat(6) + "*" + "((1+2)*3);");
    good("trait a; bridge b 1 0 = " + "(".repeat(6) + "a" + ")".repeat(6) + " and (a);");
    marked("trait a; bridge b 1 0 = " + "(".repeat(6) + "|(a" + ")".repeat(7) + ";", 2);
    good("trait a; bridge b 1 0 = " + "not ".repeat(6) + "a and " + "not ".repeat(6) + "a;");
    good("trait a; bridge b 1 0 = " + "not ".repeat(6) + "(" + "not ".repeat(6) + "a);");
    marked("trait a; bridge b 1 0 = " + "not ".repeat(6) + "|not a;", 2);
    String nested = ("not ".repeat(6) + "(").repeat(6);
    good("trait a; bridge b 1 0 = " + nested + "not ".repeat(6) + "a" + ")".repeat(6) + ";");
    good("seed 1;".repeat(133));
    good("wears=" + "1+".repeat(198) + "1;");
    marked("seed 1;".repeat(133) + "wears|=1;", 2);
    marked("seed 1;".repeat(133) + "seed|1;", 2);
    marked("seed 1;".repeat(133) + "seed|;", 1);
    marked("seed 1;".repeat(133) + "seed|", 1);
    marked("wears=" + "1+".repeat(198) + "1+|1;", 2);
    marked("wears=" + "1+".repeat(198) + "1+|)", 1);
    marked("wears=" + "1+".repeat(198) + "1|)", 1);
    good("wears=" + "1+".repeat(198) + "1;" + " ".repeat(100));
    marked("wears=" + "1+".repeat(198) + "1;|seed 5;", 2);
    marked("wears=" + "1+".repeat(198) + "1;|;", 1);
  }

  private static void behindThose() {
    marked("trait a; trait |a;", 3);
    marked("trait a; being |a 1;", 3);
    marked("being a 1; way |a 1;", 3);
    marked("trait s; way a 1; bridge |a 1 0 = s;", 3);
    marked("bridge a 1 0 = |a;", 4);
    marked("being b 1 |a; trait a;", 4);
    marked("being b 1 |b;", 4);
    marked("trait a; being b 1 a |b;", 4);
    marked("way w 1 gives |a;", 4);
    marked("trait a; way w 1 gives a drops |c;", 4);
    marked("trait a; bridge b 1 0 = a or not (a and |b);", 4);
    good("trait a; being b 99; way c 99; bridge d 99 99 = a; storm 100; seed 9999;");
    good("trait a; being b 0; way c 0; bridge d 1 0 = a; storm 0; seed 0;");
    marked("being b |100;", 5);
    marked("way w |100;", 5);
    marked("trait a; bridge b |0 0 = a;", 5);
    marked("trait a; bridge b |100 0 = a;", 5);
    marked("trait a; bridge b 99 |100 = a;", 5);
    marked("storm |101;", 5);
    good("wears = 9999 * 9999;");
  }

  private static void order() {
    marked("trait a; trait a; |x", 1);
    marked("being b 100; trait|", 1);
    marked("being b |100 c; trait b;", 5);
    marked("trait b; being |b 100 c;", 3);
    marked("being b 1 |c; storm 101;", 4);
    marked("bridge b |0 100 = c;", 5);
    marked("storm |101; being b 1 c;", 5);
    marked("storm 101;" + names("trait", 8, ";") + "|trait ta;", 2);
  }

  private static void nothingChanges() {
    FirstOver over = Checks.of("trait soul; being b 5 soul; bridge c 3 4 = soul; seed 7;");
    over.send(0, 0, -1);
    over.tell(0, true);
    over.hold(1);
    Checks.put(over, "trait x; trait x;");
    CHECKS.due("read() of a fault", over.read(), 3);
    CHECKS.due("place()", over.place(), 15);
    CHECKS.due("count(1)", over.count(1), 1);
    CHECKS.due("count(6)", over.count(6), 1);
    CHECKS.due("count(12)", over.count(12), 1);
    CHECKS.due("count(13)", over.count(13), 1);
    CHECKS.due("count(14)", over.count(14), 1);
    CHECKS.due("bridge(0, 1)", over.bridge(0, 1), 4);
    CHECKS.due("wears", over.bridge(0, 4), 1);
    Checks.put(over, "wears = 5; |");
    CHECKS.due("read() of a fault", over.read(), 1);
    CHECKS.due("wears as ahead", over.bridge(0, 4), 1);
    Checks.put(over, "trait y;");
    CHECKS.due("read()", over.read(), 0);
    CHECKS.due("place() without", over.place(), -1);
    CHECKS.due("count(0)", over.count(0), 1);
    CHECKS.due("count(1)", over.count(1), 0);
    CHECKS.due("count(6)", over.count(6), 0);
    CHECKS.due("count(12)", over.count(12), 0);
    CHECKS.due("count(13)", over.count(13), 0);
    CHECKS.due("count(14)", over.count(14), 0);
    CHECKS.due("count(5)", over.count(5), 0);
    CHECKS.due("undo()", over.undo(), false);
    CHECKS.due("restore(1)", over.restore(1), false);
  }
}
