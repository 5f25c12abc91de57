/** What the tests share: answers that are due, and texts that are put on the tape. */
final class Checks {
  private int wrong = 0;
  private int looked = 0;
  private final String name;
  private String sentence = "";

  Checks(String name) {
    this.name = name;
  }

  /** The words of the document that the answers behind it are due by. */
  void says(String words) {
    sentence = " ('" + words + "')";
  }

  void due(String what, long got, long want) {
    looked++;
    if (got != want) {
      wrong++;
      System.out.println(name + ": " + what + " answered " + got + ", due is " + want + sentence);
    }
  }

  void due(String what, boolean got, boolean want) {
    due(what, got ? 1 : 0, want ? 1 : 0);
  }

  /** Ends the program, with 1 if an answer was not as due. */
  void end() {
    System.out.println(name + ": " + looked + " answers, " + wrong + " not as due");
    System.exit(wrong == 0 ? 0 : 1);
  }

  /** Puts a text on the tape, whole twenties at a time; what is too much goes back. */
  static int put(FirstOver over, String text) {
    int many = over.count(11);
    for (int at = 0; at < text.length(); at += 20) {
      many =
          over.feed(
              word(text, at),
              word(text, at + 4),
              word(text, at + 8),
              word(text, at + 12),
              word(text, at + 16));
    }
    int more = (20 - text.length() % 20) % 20;
    return more == 0 ? many : over.back(more);
  }

  static int word(String text, int at) {
    int word = 0;
    for (int i = at; i < at + 4; i++) {
      word = word << 8 | (i < text.length() ? text.charAt(i) & 255 : 32);
    }
    return word;
  }

  static FirstOver of(String text) {
    FirstOver over = new FirstOver();
    put(over, text);
    int fault = over.read();
    if (fault != 0) {
      throw new IllegalStateException("fault " + fault + " at " + over.place() + " of: " + text);
    }
    return over;
  }

  static String times(int many, String part) {
    return part.repeat(many);
  }
}
