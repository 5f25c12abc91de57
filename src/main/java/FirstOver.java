import java.util.Arrays;

/**
 * Bridges built in a night for the first soul over. The words in capitals in the comments are
 * those of the document (../shared/DOC.md).
 *
 * <p>Every row that a call needs is made by the constructor, so that no call makes an object.
 */
public final class FirstOver {
  public static final int NONE = -1;

  /** Answers that are told apart from NONE. */
  private static final int NOT_SO = -2;

  private static final int OVER_ALREADY = -3;
  private static final int LATER_FOR_GOOD = -3;
  private static final int NO_WAY_TOLD = 9;

  private static final int MOST_BYTES = 2000;
  private static final int BYTES_FED = 20;
  private static final int MOST_TOKENS = 400;
  private static final int MOST_TRAITS = 8;
  private static final int MOST_BEINGS = 7;
  private static final int MOST_WAYS = 4;
  private static final int MOST_BRIDGES = 4;
  private static final int MOST_NAMES = MOST_TRAITS + MOST_BEINGS + MOST_WAYS + MOST_BRIDGES;
  private static final int MOST_PAIRS = MOST_BEINGS * (MOST_WAYS + 1);
  private static final int MOST_LEARNT = 9;
  private static final int MOST_UNDONE = 40;
  private static final int MOST_TOLD = 20;
  private static final int MOST_STONES = 99;
  private static final int MOST_YEARS = 60;
  private static final int MOST_SEEDS = 20;
  private static final int MOST_SHUT = 3;
  private static final int YEARS_LOOKED_AHEAD = 200;
  private static final int SLOTS = 3;
  private static final int SOUL = 1;

  /** What a BRIDGE is. */
  private static final int CLOSED = 0;

  private static final int OPEN = 1;
  private static final int FALLEN = 2;

  /** FAULTS. */
  private static final int SYNTAX = 1;

  private static final int ROOM = 2;
  private static final int TWICE = 3;
  private static final int NO_TRAIT = 4;
  private static final int WRONG = 5;

  /** Kinds of TOKENS: a SIGN's kind is its byte, a word's is FIRST_WORD and its place in WORDS. */
  private static final int END = 0;

  private static final int NAME = 1;
  private static final int INT = 2;
  private static final int NO_TOKEN = 3;
  private static final int FIRST_WORD = 256;

  private static final int WORD_LENGTH = 8;
  private static final int WORD_COUNT = 26;
  private static final String WORDS =
      "trait   being   way     bridge  wears   mends   asks    storm   seed    gives   drops   or      and     not     if      then    else    stones  load    year    stood   which   loss    many    open    learnt  ";

  private static final int TRAIT_WORD = FIRST_WORD;
  private static final int BEING_WORD = FIRST_WORD + 1;
  private static final int WAY_WORD = FIRST_WORD + 2;
  private static final int BRIDGE_WORD = FIRST_WORD + 3;
  private static final int WEARS_WORD = FIRST_WORD + 4;
  private static final int MENDS_WORD = FIRST_WORD + 5;
  private static final int ASKS_WORD = FIRST_WORD + 6;
  private static final int STORM_WORD = FIRST_WORD + 7;
  private static final int SEED_WORD = FIRST_WORD + 8;
  private static final int GIVES_WORD = FIRST_WORD + 9;
  private static final int DROPS_WORD = FIRST_WORD + 10;
  private static final int OR_WORD = FIRST_WORD + 11;
  private static final int AND_WORD = FIRST_WORD + 12;
  private static final int NOT_WORD = FIRST_WORD + 13;
  private static final int IF_WORD = FIRST_WORD + 14;
  private static final int THEN_WORD = FIRST_WORD + 15;
  private static final int ELSE_WORD = FIRST_WORD + 16;
  private static final int FIRST_VAR_WORD = FIRST_WORD + 17;

  /** VARS, in the order in which WORDS has them. */
  private static final int VAR_COUNT = 9;

  private static final int STONES_VAR = 0;
  private static final int LOAD_VAR = 1;
  private static final int YEAR_VAR = 2;
  private static final int STOOD_VAR = 3;
  private static final int WHICH_VAR = 4;
  private static final int LOSS_VAR = 5;
  private static final int MANY_VAR = 6;
  private static final int OPEN_VAR = 7;
  private static final int LEARNT_VAR = 8;

  private final Reader reader;
  private int faultPlace;
  private Text text;
  private final Going now;
  private final Keeper keeper;
  private final History history;
  private final Going[] slots;
  private int slotsHeld;
  private final Told told;
  private final Plan plan;
  private final Cheated cheated;

  public FirstOver() {
    reader = new Reader();
    faultPlace = NONE;
    text = new Text();
    now = new Going();
    keeper = new Keeper();
    history = new History();
    slots = new Going[SLOTS];
    for (int i = 0; i < SLOTS; i++) {
      slots[i] = new Going();
    }
    slotsHeld = 0;
    told = new Told();
    plan = new Plan();
    cheated = new Cheated();
  }

  // ---- the tape and the text

  public int feed(int a, int b, int c, int d, int e) {
    Tape tape = reader.tape;
    if (tape.length > MOST_BYTES - BYTES_FED) {
      return NONE;
    }
    tape.put(a);
    tape.put(b);
    tape.put(c);
    tape.put(d);
    tape.put(e);
    return tape.length;
  }

  public int back(int n) {
    if (n < 0 || n > reader.tape.length) {
      return NONE;
    }
    reader.tape.length -= n;
    return reader.tape.length;
  }

  public int read() {
    reader.start();
    int fault = reader.readTells();
    reader.tape.length = 0;
    faultPlace = fault == 0 ? NONE : reader.place;
    if (fault == 0) {
      text = reader.swapText(text);
      now.startFrom(text);
      history.steps = 0;
      told.many = 0;
      slotsHeld = 0;
    }
    return fault;
  }

  public int place() {
    return faultPlace;
  }

  // ---- what is told and how it stands

  public int being(int being, int what) {
    if (!text.hasBeing(being)) {
      return NONE;
    }
    switch (what) {
      case 0:
        return text.loss[being];
      case 1:
        return text.own[being];
      case 2:
        return now.there >>> being & 1;
      default:
        return NONE;
    }
  }

  public int set(int being, int way) {
    return text.hasBeing(being) && text.hasWayOrNone(way) ? text.setOf(being, way) : NONE;
  }

  public int way(int way, int what) {
    if (way < 0 || !text.hasWayOrNone(way)) {
      return NONE;
    }
    switch (what) {
      case 0:
        return text.cost[way];
      case 1:
        return text.gives[way];
      case 2:
        return text.drops[way];
      default:
        return NONE;
    }
  }

  public int bridge(int bridge, int what) {
    if (!text.hasBridge(bridge)) {
      return NONE;
    }
    switch (what) {
      case 0:
        return now.stones[bridge];
      case 1:
        return text.load[bridge];
      case 2:
        return now.phase[bridge];
      case 3:
        return now.stood[bridge];
      case 4:
        return keeper.wearsOf(text, now, bridge);
      case 5:
        return keeper.mendsOf(text, now, bridge);
      case 6:
        return text.setsOfBoth(bridge, bridge);
      default:
        return NONE;
    }
  }

  public int asks(int bridge, int being) {
    return text.hasBridge(bridge) && text.hasBeing(being)
        ? keeper.asksOf(text, now, bridge, being)
        : NONE;
  }

  public int holds(int bridge, int set) {
    if (!text.hasBridge(bridge) || set < 0 || set >= text.setCount()) {
      return NONE;
    }
    return text.clauseHolds(bridge, set) ? 1 : 0;
  }

  public int taken(int bridge, int being, int way) {
    if (!hasAll(bridge, being, way)) {
      return NONE;
    }
    int set = text.setOf(being, way);
    if (!text.clauseHolds(bridge, set)) {
      return 1;
    }
    return now.hasLearnt(set) ? 2 : 0;
  }

  private boolean hasAll(int bridge, int being, int way) {
    return text.hasBridge(bridge) && text.hasBeing(being) && text.hasWayOrNone(way);
  }

  // ---- what is done

  public int send(int bridge, int being, int way) {
    if (!hasAll(bridge, being, way)) {
      return NONE;
    }
    if (!now.isThere(being) || now.phase[bridge] != CLOSED) {
      return NOT_SO;
    }
    history.keep(now);
    int set = text.setOf(being, way);
    now.lost += text.costOf(way);
    if (!now.takes(text, bridge, set)) {
      return 0;
    }
    now.lost += text.loss[being];
    now.goOver(bridge, being);
    if ((set & SOUL) != 0) {
      return 1;
    }
    now.cheat(bridge, set);
    return 2;
  }

  public int mend(int bridge) {
    if (!text.hasBridge(bridge)) {
      return NONE;
    }
    if (!now.canBeMended(bridge)) {
      return NOT_SO;
    }
    history.keep(now);
    now.lost += keeper.mendsOf(text, now, bridge);
    now.stones[bridge]++;
    return now.stones[bridge];
  }

  public int years(int n) {
    if (n < 0 || n > MOST_YEARS) {
      return NONE;
    }
    if (n > 0) {
      history.keep(now);
      keeper.passYears(text, now, n, text.seed);
    }
    return now.year;
  }

  public boolean undo() {
    return history.giveBack(now);
  }

  // ---- what would be

  public int cheap(int bridge, int what) {
    if (!text.hasBridge(bridge) || what < 0 || what > 2) {
      return NONE;
    }
    if (!plan.findCheapest(text, now, bridge)) {
      return NOT_SO;
    }
    switch (what) {
      case 0:
        return plan.cheapLost;
      case 1:
        return plan.cheapBeing;
      default:
        return wayTold(plan.cheapWay);
    }
  }

  private static int wayTold(int way) {
    return way == NONE ? NO_WAY_TOLD : way;
  }

  public int cheats(int bridge) {
    if (!text.hasBridge(bridge)) {
      return NONE;
    }
    cheated.gather(text, now, bridge);
    return cheated.many;
  }

  public int all(int bridge, int what) {
    if (bridge == NONE) {
      return plan.findForAll(text, now) ? plan.leastLost : NOT_SO;
    }
    if (!text.hasBridge(bridge) || what < 0 || what > 1) {
      return NONE;
    }
    if (now.phase[bridge] != CLOSED) {
      return OVER_ALREADY;
    }
    if (!plan.findForAll(text, now)) {
      return NOT_SO;
    }
    return what == 0 ? plan.bestBeing[bridge] : wayTold(plan.bestWay[bridge]);
  }

  public int bar(int bridge, int what) {
    if (!text.hasBridge(bridge) || what < 0 || what > 1) {
      return NONE;
    }
    if (text.traits == 0) {
      return NOT_SO;
    }
    cheated.gather(text, now, bridge);
    int trait = cheated.traitToBar(text.traits);
    return what == 0 ? trait : cheated.shutOutBy(1 << trait);
  }

  public int shuts(int bridge, int i) {
    if (!text.hasBridge(bridge) || i < NONE || i >= MOST_SHUT) {
      return NONE;
    }
    cheated.gather(text, now, bridge);
    int bars = cheated.fewestBars(text.traits);
    if (bars == NONE) {
      return NOT_SO;
    }
    return i == NONE ? Integer.bitCount(bars) : bitAt(bars, i);
  }

  /** The i-th bit that is set, NONE if there are not so many. */
  private static int bitAt(int bits, int i) {
    int passed = 0;
    for (int bit = 0; bit < MOST_TRAITS; bit++) {
      if ((bits >>> bit & 1) != 0) {
        if (passed == i) {
          return bit;
        }
        passed++;
      }
    }
    return NONE;
  }

  public int stands(int bridge) {
    if (!text.hasBridge(bridge)) {
      return NONE;
    }
    if (now.phase[bridge] != OPEN) {
      return NOT_SO;
    }
    int years = keeper.yearsToFall(text, now, bridge, 0);
    return years > YEARS_LOOKED_AHEAD ? NOT_SO : years;
  }

  public int mendFirst(int what) {
    if (what < 0 || what > 1) {
      return NONE;
    }
    int first = NOT_SO;
    int most = 0;
    for (int bridge = 0; bridge < text.bridges; bridge++) {
      int later = now.canBeMended(bridge) ? yearsGained(bridge) : 0;
      if (later > most) {
        most = later;
        first = bridge;
      }
    }
    if (first == NOT_SO || what == 0) {
      return first;
    }
    return most > YEARS_LOOKED_AHEAD ? LATER_FOR_GOOD : most;
  }

  /** How many YEARS later a MENDED BRIDGE is FALLEN; above YEARS_LOOKED_AHEAD: for good. */
  private int yearsGained(int bridge) {
    int unmended = keeper.yearsToFall(text, now, bridge, 0);
    if (unmended > YEARS_LOOKED_AHEAD) {
      return 0;
    }
    int mended = keeper.yearsToFall(text, now, bridge, 1);
    return mended > YEARS_LOOKED_AHEAD ? mended : mended - unmended;
  }

  public int alike(int bridge, int other, int what) {
    if (!text.hasBridge(bridge) || !text.hasBridge(other) || what < 0 || what > 1) {
      return NONE;
    }
    int both = text.setsOfBoth(bridge, other);
    if (what == 1) {
      return both;
    }
    boolean same =
        both == text.setsOfBoth(bridge, bridge) && both == text.setsOfBoth(other, other);
    return same ? 1 : 0;
  }

  public int stonesIn(int bridge, int n) {
    if (!text.hasBridge(bridge) || n < 0 || n > MOST_YEARS) {
      return NONE;
    }
    return keeper.lookAhead(text, now, n, text.seed).stones[bridge];
  }

  public int openIn(int n) {
    if (n < 0 || n > MOST_YEARS) {
      return NONE;
    }
    return keeper.lookAhead(text, now, n, text.seed).countOpen();
  }

  public int year(int bridge, int n, int s) {
    if (!text.hasBridge(bridge) || n < 0 || n > MOST_YEARS || s < 1 || s > MOST_SEEDS) {
      return NONE;
    }
    int seedsOpen = 0;
    for (int i = 0; i < s && now.phase[bridge] == OPEN; i++) {
      Going then = keeper.lookAhead(text, now, n, text.seed + i);
      seedsOpen += then.phase[bridge] == OPEN ? 1 : 0;
    }
    return seedsOpen;
  }

  // ---- what is told of what went over

  public int tell(int trait, boolean had) {
    return trait < 0 || trait >= text.traits ? NONE : told.add(trait, had);
  }

  public int forget() {
    int many = told.many;
    told.many = 0;
    return many;
  }

  public int went(int bridge, int k) {
    return isKnown(bridge, k) ? told.countLeft(text, bridge, k) : NONE;
  }

  private boolean isKnown(int bridge, int k) {
    return text.hasBridge(bridge) && k >= 0 && k <= told.many;
  }

  public int sure(int bridge, int k) {
    return isKnown(bridge, k) ? told.onlyBeing(text, bridge, k) : NONE;
  }

  public int ask(int bridge, int k) {
    return isKnown(bridge, k) ? told.traitToAsk(text, bridge, k) : NONE;
  }

  // ---- slots and counts

  public boolean hold(int slot) {
    if (slot < 0 || slot >= SLOTS) {
      return false;
    }
    slots[slot].copyFrom(now);
    slotsHeld |= 1 << slot;
    return true;
  }

  public boolean restore(int slot) {
    if (slot < 0 || slot >= SLOTS || (slotsHeld >>> slot & 1) == 0) {
      return false;
    }
    now.copyFrom(slots[slot]);
    history.steps = 0;
    return true;
  }

  public int count(int what) {
    switch (what) {
      case 0:
        return text.traits;
      case 1:
        return text.beings;
      case 2:
        return text.ways;
      case 3:
        return text.bridges;
      case 4:
        return now.year;
      case 5:
        return now.lost;
      case 6:
        return now.bridgesOf(OPEN);
      case 7:
        return now.bridgesOf(FALLEN);
      case 8:
        return now.there;
      case 9:
        return now.learntCount;
      case 10:
        return now.timesCheated;
      case 11:
        return reader.tape.length;
      case 12:
        return history.steps;
      case 13:
        return told.many;
      case 14:
        return Integer.bitCount(slotsHeld);
      case 15:
        return Keeper.isStorm(text.storm, text.seed, now.year) ? 1 : 0;
      default:
        return NONE;
    }
  }

  /**
   * The tape and the TOKENS that it is cut into: at most one more than a text may have, so that it
   * can be told.
   */
  private static final class Tape {
    int length;
    final int[] kinds = new int[MOST_TOKENS + 2];
    final int[] places = new int[MOST_TOKENS + 2];
    /** A NAME as a number of base 32, an INT's value. */
    final long[] values = new long[MOST_TOKENS + 2];

    private final long[] words = new long[WORD_COUNT];
    private final byte[] bytes = new byte[MOST_BYTES];
    private int at;

    Tape() {
      for (int word = 0; word < WORD_COUNT; word++) {
        for (int i = word * WORD_LENGTH; i < (word + 1) * WORD_LENGTH; i++) {
          if (i < WORDS.length() && isLetter(WORDS.charAt(i))) {
            words[word] = withLetter(words[word], WORDS.charAt(i));
          }
        }
      }
    }

    /** Puts four bytes behind the others, the highest first. */
    void put(int word) {
      for (int shift = 24; shift >= 0; shift -= 8) {
        if (length < bytes.length) {
          bytes[length] = (byte) (word >>> shift);
          length++;
        }
      }
    }

    void cut() {
      at = 0;
      skipBlanks();
      int many = 0;
      for (; many <= MOST_TOKENS && at < length; many++) {
        places[many] = at;
        cutOne(many);
        skipBlanks();
      }
      kinds[many] = END;
      places[many] = length;
    }

    private void skipBlanks() {
      for (; at < length; at++) {
        int sign = bytes[at];
        if (sign != 9 && sign != 10 && sign != 13 && sign != 32) {
          return;
        }
      }
    }

    private void cutOne(int token) {
      int sign = bytes[at];
      if (isLetter(sign)) {
        cutWord(token);
      } else if (isDigit(sign)) {
        cutNumber(token);
      } else {
        kinds[token] = isSign(sign) ? sign : NO_TOKEN;
        at++;
      }
    }

    private void cutWord(int token) {
      int letters = 0;
      long word = 0;
      for (; at < length && isLetter(bytes[at]); at++) {
        word = withLetter(word, bytes[at]);
        letters++;
      }
      values[token] = word;
      kinds[token] = letters > WORD_LENGTH ? NO_TOKEN : kindOf(word);
    }

    private int kindOf(long word) {
      for (int i = 0; i < WORD_COUNT; i++) {
        if (words[i] == word) {
          return FIRST_WORD + i;
        }
      }
      return NAME;
    }

    private void cutNumber(int token) {
      int digits = 0;
      int number = 0;
      for (; at < length && isDigit(bytes[at]); at++) {
        number = number * 10 + (bytes[at] - '0');
        digits++;
      }
      values[token] = number;
      kinds[token] = digits > 4 ? NO_TOKEN : INT;
    }

    private static long withLetter(long word, int letter) {
      return word * 32 + (letter - 'a' + 1);
    }

    private static boolean isLetter(int sign) {
      return sign >= 'a' && sign <= 'z';
    }

    private static boolean isDigit(int sign) {
      return sign >= '0' && sign <= '9';
    }

    private static boolean isSign(int sign) {
      switch (sign) {
        case ';':
        case '=':
        case '+':
        case '-':
        case '*':
        case '/':
        case '<':
        case '(':
        case ')':
          return true;
        default:
          return false;
      }
    }
  }

  /**
   * Reads a text. Its methods answer false at a FAULT of SYNTAX or ROOM, with which reading ends; a
   * later sort of FAULT is noted, as it counts only if none of those comes.
   */
  private static final class Reader {
    private static final int MOST_NESTED = 6;
    private static final int MOST_IFS = 4;
    /** Left of an 'or', left of an 'and', for each ( and for none, and one that is read. */
    private static final int MOST_TABLES = 2 * (MOST_NESTED + 1) + 1;

    final Tape tape = new Tape();
    int place;
    private int fault;
    private int notedFault;
    private int notedPlace;
    private int kind;
    private int at;
    private int number;
    private int trait;
    private Text text;
    private Law law;
    private final long[] names = new long[MOST_NAMES];
    private int nameCount;
    private final long[] traitNames = new long[MOST_TRAITS];
    private final long[] tables = new long[MOST_TABLES * Text.TABLE];
    private int top;

    Reader() {
      text = new Text();
      law = text.wearsLaw;
    }

    /** Gives out the text that was read, and takes another one, which the next is read into. */
    Text swapText(Text other) {
      Text read = text;
      text = other;
      return read;
    }

    void start() {
      text.clear();
      tape.cut();
      fault = 0;
      notedFault = 0;
      nameCount = 0;
      at = 0;
      kind = tape.kinds[0];
    }

    /** The number of the FAULT, which stands at the place; 0 without. */
    int readTells() {
      boolean fits = true;
      for (int i = 0; i <= MOST_TOKENS && fits && kind != END; i++) {
        switch (kind) {
          case TRAIT_WORD:
            fits = readTrait();
            break;
          case BEING_WORD:
            fits = readBeing();
            break;
          case WAY_WORD:
            fits = readWay();
            break;
          case BRIDGE_WORD:
            fits = readBridge();
            break;
          case WEARS_WORD:
            fits = readLaw(text.wearsLaw);
            break;
          case MENDS_WORD:
            fits = readLaw(text.mendsLaw);
            break;
          case ASKS_WORD:
            fits = readLaw(text.asksLaw);
            break;
          case STORM_WORD:
            fits = readStorm();
            break;
          case SEED_WORD:
            fits = readSeed();
            break;
          default:
            fits = refuse(SYNTAX);
            break;
        }
      }
      if (fits) {
        fault = notedFault;
      }
      // Nothing is passed behind what was refused, so that it is still the TOKEN here.
      place = fits ? notedPlace : tape.places[at];
      return fault;
    }

    private boolean refuse(int what) {
      fault = what;
      return false;
    }

    private void note(int what) {
      if (notedFault == 0) {
        notedFault = what;
        notedPlace = tape.places[at];
      }
    }

    /** Goes on behind a TOKEN of that kind, if there is room for it. */
    private boolean pass(int wanted) {
      if (kind != wanted || at >= MOST_TOKENS) {
        fault = kind != wanted ? SYNTAX : ROOM;
        return false;
      }
      at++;
      kind = tape.kinds[at];
      return true;
    }

    private long valueHere() {
      return tape.values[at];
    }

    private boolean readTrait() {
      if (text.traits >= MOST_TRAITS) {
        return refuse(ROOM);
      }
      if (!pass(TRAIT_WORD)) {
        return false;
      }
      long name = valueHere();
      if (!readNewName()) {
        return false;
      }
      traitNames[text.traits] = name;
      text.traits++;
      return pass(';');
    }

    private boolean readBeing() {
      if (text.beings >= MOST_BEINGS) {
        return refuse(ROOM);
      }
      if (!pass(BEING_WORD) || !readNewName() || !readNumber(0, 99)) {
        return false;
      }
      text.loss[text.beings] = number;
      int own = 0;
      for (int i = 0; i < MOST_TOKENS && kind == NAME; i++) {
        if (!readTraitName()) {
          return false;
        }
        own |= 1 << trait;
      }
      text.own[text.beings] = own;
      text.beings++;
      return pass(';');
    }

    private boolean readWay() {
      if (text.ways >= MOST_WAYS) {
        return refuse(ROOM);
      }
      if (!pass(WAY_WORD) || !readNewName() || !readNumber(0, 99)) {
        return false;
      }
      text.cost[text.ways] = number;
      int gives = 0;
      int drops = 0;
      for (int i = 0; i < MOST_TOKENS && (kind == GIVES_WORD || kind == DROPS_WORD); i++) {
        boolean isGiven = kind == GIVES_WORD;
        if (!pass(kind) || !readTraitName()) {
          return false;
        }
        int bit = 1 << trait;
        gives = isGiven ? gives | bit : gives & ~bit;
        drops = isGiven ? drops & ~bit : drops | bit;
      }
      text.gives[text.ways] = gives;
      text.drops[text.ways] = drops;
      text.ways++;
      return pass(';');
    }

    private boolean readBridge() {
      if (text.bridges >= MOST_BRIDGES) {
        return refuse(ROOM);
      }
      if (!pass(BRIDGE_WORD) || !readNewName() || !readNumber(1, MOST_STONES)) {
        return false;
      }
      text.stones[text.bridges] = number;
      if (!readNumber(0, 99)) {
        return false;
      }
      text.load[text.bridges] = number;
      top = 0;
      if (!pass('=') || !readEither(0, ';')) {
        return false;
      }
      System.arraycopy(tables, 0, text.clauses, text.bridges * Text.TABLE, Text.TABLE);
      text.bridges++;
      return true;
    }

    private boolean readStorm() {
      if (!pass(STORM_WORD) || !readNumber(0, 100)) {
        return false;
      }
      text.storm = number;
      return pass(';');
    }

    private boolean readSeed() {
      if (!pass(SEED_WORD) || !readNumber(0, 9999)) {
        return false;
      }
      text.seed = number;
      return pass(';');
    }

    private boolean readNewName() {
      long name = valueHere();
      if (kind == NAME) {
        for (int i = 0; i < nameCount; i++) {
          if (names[i] == name) {
            note(TWICE);
          }
        }
        if (nameCount < names.length) {
          names[nameCount] = name;
          nameCount++;
        }
      }
      return pass(NAME);
    }

    /** A NAME of a TRAIT told ahead, whose number it keeps (0 if there is none: it is noted). */
    private boolean readTraitName() {
      trait = NONE;
      for (int i = text.traits - 1; i >= 0; i--) {
        if (traitNames[i] == valueHere()) {
          trait = i;
        }
      }
      if (trait == NONE) {
        trait = 0;
        if (kind == NAME) {
          note(NO_TRAIT);
        }
      }
      return pass(NAME);
    }

    private boolean readNumber(int least, int most) {
      number = (int) valueHere();
      if (kind == INT && (number < least || number > most)) {
        note(WRONG);
      }
      return pass(INT);
    }

    // A CLAUSE is read into the table of all sets: what is read last stands on top.

    /** A C and the TOKEN behind it. */
    private boolean readEither(int nested, int behind) {
      if (!readBoth(nested)) {
        return false;
      }
      for (int i = 0; i < MOST_TOKENS && kind == OR_WORD; i++) {
        if (!pass(OR_WORD) || !readBoth(nested)) {
          return false;
        }
        joinTables(false);
      }
      return pass(behind);
    }

    private boolean readBoth(int nested) {
      if (!readNot(nested)) {
        return false;
      }
      for (int i = 0; i < MOST_TOKENS && kind == AND_WORD; i++) {
        if (!pass(AND_WORD) || !readNot(nested)) {
          return false;
        }
        joinTables(true);
      }
      return true;
    }

    private boolean readNot(int nested) {
      boolean turned = false;
      for (int nots = 0; nots <= MOST_NESTED && kind == NOT_WORD; nots++) {
        if (nots == MOST_NESTED) {
          return refuse(ROOM);
        }
        if (!pass(NOT_WORD)) {
          return false;
        }
        turned = !turned;
      }
      if (kind == '(') {
        if (nested >= MOST_NESTED) {
          return refuse(ROOM);
        }
        if (!pass('(') || !readEither(nested + 1, ')')) {
          return false;
        }
      } else {
        if (!readTraitName()) {
          return false;
        }
        pushTable();
      }
      if (turned) {
        turnTable();
      }
      return true;
    }

    private void pushTable() {
      if (top < MOST_TABLES) {
        for (int i = 0; i < Text.TABLE; i++) {
          tables[top * Text.TABLE + i] = Text.setsWith(trait, i);
        }
        top++;
      }
    }

    private void turnTable() {
      if (top >= 1) {
        for (int i = (top - 1) * Text.TABLE; i < top * Text.TABLE; i++) {
          tables[i] = ~tables[i];
        }
      }
    }

    private void joinTables(boolean isAnd) {
      if (top >= 2) {
        top--;
        for (int i = (top - 1) * Text.TABLE; i < top * Text.TABLE; i++) {
          long right = tables[i + Text.TABLE];
          tables[i] = isAnd ? tables[i] & right : tables[i] | right;
        }
      }
    }

    private boolean readLaw(Law into) {
      if (!pass(kind) || !pass('=')) {
        return false;
      }
      law = into;
      law.clear();
      for (int ifs = 0; ifs <= MOST_IFS && kind == IF_WORD; ifs++) {
        if (ifs == MOST_IFS) {
          return refuse(ROOM);
        }
        if (!pass(IF_WORD)
            || !readSum(0, '<')
            || !readSum(0, THEN_WORD)
            || !readSum(0, ELSE_WORD)) {
          return false;
        }
      }
      return readSum(0, ';');
    }

    /** An E and the TOKEN behind it; one that is in no ( is a part of the LAW. */
    private boolean readSum(int nested, int behind) {
      if (!readProduct(nested)) {
        return false;
      }
      for (int i = 0; i < MOST_TOKENS && (kind == '+' || kind == '-'); i++) {
        int step = kind == '+' ? Law.ADD : Law.SUBTRACT;
        if (!pass(kind) || !readProduct(nested)) {
          return false;
        }
        law.addStep(step);
      }
      if (nested == 0) {
        law.endPart();
      }
      return pass(behind);
    }

    private boolean readProduct(int nested) {
      if (!readUnit(nested)) {
        return false;
      }
      for (int i = 0; i < MOST_TOKENS && (kind == '*' || kind == '/'); i++) {
        int step = kind == '*' ? Law.MULTIPLY : Law.DIVIDE;
        if (!pass(kind) || !readUnit(nested)) {
          return false;
        }
        law.addStep(step);
      }
      return true;
    }

    private boolean readUnit(int nested) {
      if (kind == '(') {
        if (nested >= MOST_NESTED) {
          return refuse(ROOM);
        }
        return pass('(') && readSum(nested + 1, ')');
      }
      if (kind == INT) {
        law.addStep((int) valueHere());
        return pass(INT);
      }
      if (kind < FIRST_VAR_WORD) {
        return refuse(SYNTAX);
      }
      law.addStep(Law.FIRST_VAR - (kind - FIRST_VAR_WORD));
      return pass(kind);
    }
  }

  /** What a text tells. */
  private static final class Text {
    /** Longs of a table that has a bit for each set of TRAITS. */
    static final int TABLE = 4;

    private static final int ALL_SETS = 256;
    private static final long[] SETS_WITH = {
      0xAAAAAAAAAAAAAAAAL,
      0xCCCCCCCCCCCCCCCCL,
      0xF0F0F0F0F0F0F0F0L,
      0xFF00FF00FF00FF00L,
      0xFFFF0000FFFF0000L,
      0xFFFFFFFF00000000L
    };

    int traits;
    int beings;
    int ways;
    int bridges;
    int storm;
    int seed;
    final int[] loss = new int[MOST_BEINGS];
    final int[] own = new int[MOST_BEINGS];
    final int[] cost = new int[MOST_WAYS];
    final int[] gives = new int[MOST_WAYS];
    final int[] drops = new int[MOST_WAYS];
    final int[] stones = new int[MOST_BRIDGES];
    final int[] load = new int[MOST_BRIDGES];
    final long[] clauses = new long[MOST_BRIDGES * TABLE];
    final Law wearsLaw = new Law();
    final Law mendsLaw = new Law();
    final Law asksLaw = new Law();

    Text() {
      clear();
    }

    void clear() {
      traits = 0;
      beings = 0;
      ways = 0;
      bridges = 0;
      storm = 0;
      seed = 0;
      wearsLaw.setTo(1);
      mendsLaw.setTo(1);
      asksLaw.setTo(Law.FIRST_VAR - LOSS_VAR);
    }

    boolean hasBeing(int being) {
      return being >= 0 && being < beings;
    }

    boolean hasBridge(int bridge) {
      return bridge >= 0 && bridge < bridges;
    }

    boolean hasWayOrNone(int way) {
      return way >= NONE && way < ways;
    }

    int setCount() {
      return 1 << traits;
    }

    /** For a BEING that there is, and a WAY that there is or NONE. */
    int setOf(int being, int way) {
      return way < 0 ? own[being] : (own[being] | gives[way]) & ~drops[way];
    }

    int costOf(int way) {
      return way < 0 ? 0 : cost[way];
    }

    boolean clauseHolds(int bridge, int set) {
      if (!hasBridge(bridge) || set < 0 || set >= ALL_SETS) {
        return false;
      }
      return (clauses[bridge * TABLE + (set >>> 6)] >>> (set & 63) & 1) != 0;
    }

    /** For how many sets of the TRAITS that there are the CLAUSES of both BRIDGES hold. */
    int setsOfBoth(int bridge, int other) {
      if (!hasBridge(bridge) || !hasBridge(other)) {
        return 0;
      }
      int many = 0;
      for (int i = 0; i < TABLE; i++) {
        long both = clauses[bridge * TABLE + i] & clauses[other * TABLE + i];
        many += Long.bitCount(both & setsThere(i));
      }
      return many;
    }

    /** Of the table of all sets of the TRAITS that there are the i-th long. */
    private long setsThere(int i) {
      int behind = setCount() - i * 64;
      if (behind <= 0) {
        return 0L;
      }
      return behind >= 64 ? -1L : (1L << behind) - 1;
    }

    /** Of the table of all sets that have a TRAIT the i-th long. */
    static long setsWith(int trait, int i) {
      if (trait < SETS_WITH.length) {
        return trait < 0 ? 0 : SETS_WITH[trait];
      }
      return (i >>> (trait - SETS_WITH.length) & 1) != 0 ? -1L : 0L;
    }
  }

  /**
   * A LAW as steps, its operands ahead of their sign: three parts for each if (one, the other, what
   * it is then), and a last part.
   */
  private static final class Law {
    /** Steps: a number is itself, VAR i is FIRST_VAR - i. */
    static final int FIRST_VAR = -1;

    static final int ADD = -11;
    static final int SUBTRACT = -12;
    static final int MULTIPLY = -13;
    static final int DIVIDE = -14;

    private static final int MOST_PARTS = 13;
    /** Two that wait for each ( and for none, and two that are joined. */
    private static final int MOST_VALUES = 16;

    private static final long DIVIDED_BY_ZERO = Long.MIN_VALUE;

    private final int[] steps = new int[MOST_TOKENS];
    private int length;
    private final int[] ends = new int[MOST_PARTS];
    private int parts;
    private final int[] values = new int[MOST_VALUES];

    void clear() {
      length = 0;
      parts = 0;
    }

    void setTo(int step) {
      clear();
      addStep(step);
      endPart();
    }

    void addStep(int step) {
      if (length < steps.length) {
        steps[length] = step;
        length++;
      }
    }

    void endPart() {
      if (parts < ends.length) {
        ends[parts] = length;
        parts++;
      }
    }

    int valueBy(int[] vars) {
      int part = 0;
      for (; part + 2 < parts; part += 3) {
        long one = partBy(part, vars);
        long other = partBy(part + 1, vars);
        if (one == DIVIDED_BY_ZERO || other == DIVIDED_BY_ZERO) {
          return 0;
        }
        if (one < other) {
          return intOf(partBy(part + 2, vars));
        }
      }
      return intOf(partBy(part, vars));
    }

    private static int intOf(long value) {
      return value == DIVIDED_BY_ZERO ? 0 : (int) value;
    }

    private long partBy(int part, int[] vars) {
      if (part < 0 || part >= parts) {
        return 0;
      }
      int many = 0;
      for (int i = part == 0 ? 0 : ends[part - 1]; i < ends[part]; i++) {
        int step = steps[i];
        if (step > ADD) {
          if (many < values.length) {
            values[many] = step >= 0 ? step : varOf(step, vars);
            many++;
          }
        } else if (many >= 2) {
          many--;
          if (step == DIVIDE && values[many] == 0) {
            return DIVIDED_BY_ZERO;
          }
          values[many - 1] = join(step, values[many - 1], values[many]);
        }
      }
      return many > 0 ? values[many - 1] : 0;
    }

    private static int varOf(int step, int[] vars) {
      int var = FIRST_VAR - step;
      return var >= 0 && var < vars.length ? vars[var] : 0;
    }

    private static int join(int step, int left, int right) {
      switch (step) {
        case ADD:
          return left + right;
        case SUBTRACT:
          return left - right;
        case MULTIPLY:
          return left * right;
        default:
          return right == 0 ? 0 : left / right;
      }
    }
  }

  /** All that goes on, but for the text. */
  private static final class Going {
    final int[] stones = new int[MOST_BRIDGES];
    final int[] phase = new int[MOST_BRIDGES];
    final int[] stood = new int[MOST_BRIDGES];
    final int[] learnt = new int[MOST_LEARNT];
    int learntCount;
    int timesCheated;
    int there;
    int lost;
    int year;

    void startFrom(Text text) {
      System.arraycopy(text.stones, 0, stones, 0, MOST_BRIDGES);
      Arrays.fill(phase, CLOSED);
      Arrays.fill(stood, 0);
      learntCount = 0;
      timesCheated = 0;
      there = (1 << text.beings) - 1;
      lost = 0;
      year = 0;
    }

    void copyFrom(Going other) {
      System.arraycopy(other.stones, 0, stones, 0, MOST_BRIDGES);
      System.arraycopy(other.phase, 0, phase, 0, MOST_BRIDGES);
      System.arraycopy(other.stood, 0, stood, 0, MOST_BRIDGES);
      System.arraycopy(other.learnt, 0, learnt, 0, MOST_LEARNT);
      learntCount = other.learntCount;
      timesCheated = other.timesCheated;
      there = other.there;
      lost = other.lost;
      year = other.year;
    }

    boolean isThere(int being) {
      return (there >>> being & 1) != 0;
    }

    boolean hasLearnt(int set) {
      for (int i = 0; i < learntCount; i++) {
        if (learnt[i] == set) {
          return true;
        }
      }
      return false;
    }

    boolean takes(Text text, int bridge, int set) {
      return text.clauseHolds(bridge, set) && !hasLearnt(set);
    }

    boolean canBeMended(int bridge) {
      return phase[bridge] == OPEN && stones[bridge] < MOST_STONES;
    }

    void goOver(int bridge, int being) {
      phase[bridge] = OPEN;
      there &= ~(1 << being);
    }

    void cheat(int bridge, int set) {
      timesCheated++;
      learn(set);
      loseStones(bridge, 1);
    }

    void learn(int set) {
      if (learntCount < learnt.length) {
        learnt[learntCount] = set;
        learntCount++;
      }
    }

    void loseStones(int bridge, int many) {
      stones[bridge] = Math.max(0, stones[bridge] - many);
      if (stones[bridge] == 0) {
        phase[bridge] = FALLEN;
      }
    }

    /** The BRIDGES that are so, as bits. */
    int bridgesOf(int wanted) {
      int bits = 0;
      for (int bridge = 0; bridge < MOST_BRIDGES; bridge++) {
        if (phase[bridge] == wanted) {
          bits |= 1 << bridge;
        }
      }
      return bits;
    }

    int countOpen() {
      return Integer.bitCount(bridgesOf(OPEN));
    }
  }

  /** Keeps the LAWS, and lets YEARS go by. */
  private static final class Keeper {
    private final int[] vars = new int[VAR_COUNT];
    private final int[] wear = new int[MOST_BRIDGES];
    private final Going would = new Going();

    int wearsOf(Text text, Going going, int bridge) {
      lookAt(text, going, bridge);
      return heldTo(9, text.wearsLaw.valueBy(vars));
    }

    int mendsOf(Text text, Going going, int bridge) {
      lookAt(text, going, bridge);
      return heldTo(99, text.mendsLaw.valueBy(vars));
    }

    int asksOf(Text text, Going going, int bridge, int being) {
      lookAt(text, going, bridge);
      vars[LOSS_VAR] = text.loss[being];
      vars[MANY_VAR] = Integer.bitCount(text.own[being]);
      return heldTo(99, text.asksLaw.valueBy(vars));
    }

    private void lookAt(Text text, Going going, int bridge) {
      vars[STONES_VAR] = going.stones[bridge];
      vars[LOAD_VAR] = text.load[bridge];
      vars[YEAR_VAR] = going.year;
      vars[STOOD_VAR] = going.stood[bridge];
      vars[WHICH_VAR] = bridge;
      vars[LOSS_VAR] = 0;
      vars[MANY_VAR] = 0;
      vars[OPEN_VAR] = going.countOpen();
      vars[LEARNT_VAR] = going.learntCount;
    }

    private static int heldTo(int most, int value) {
      return Math.max(0, Math.min(most, value));
    }

    void passYears(Text text, Going going, int years, int seed) {
      for (int i = 0; i < years; i++) {
        passYear(text, going, isStorm(text.storm, seed, going.year) ? 1 : 0);
      }
    }

    /** How all is in some YEARS, by a SEED; it stands until the next call that looks ahead. */
    Going lookAhead(Text text, Going going, int years, int seed) {
      would.copyFrom(going);
      passYears(text, would, years, seed);
      return would;
    }

    /**
     * Behind how many YEARS without STORMS an OPEN BRIDGE with some STONES more is FALLEN; above
     * YEARS_LOOKED_AHEAD: for good.
     */
    int yearsToFall(Text text, Going going, int bridge, int stonesMore) {
      would.copyFrom(going);
      would.stones[bridge] += stonesMore;
      int years = 0;
      for (; years <= YEARS_LOOKED_AHEAD && would.phase[bridge] == OPEN; years++) {
        passYear(text, would, 0);
      }
      return years;
    }

    private void passYear(Text text, Going going, int more) {
      // All wear is looked up first: each LAW counts by how all was.
      for (int bridge = 0; bridge < text.bridges; bridge++) {
        wear[bridge] = going.phase[bridge] == OPEN ? wearsOf(text, going, bridge) + more : 0;
      }
      for (int bridge = 0; bridge < text.bridges; bridge++) {
        if (going.phase[bridge] == OPEN) {
          going.stood[bridge]++;
          going.loseStones(bridge, wear[bridge]);
        }
      }
      going.year++;
    }

    static boolean isStorm(int ofHundred, int seed, int year) {
      return lot(100, seed, 4 * year) < ofHundred;
    }

    private static int lot(int n, int seed, int which) {
      int h = stirred(stirred(seed, 109), which);
      return n > 0 ? (h >>> 1) % n : 0;
    }

    private static int stirred(int h, int by) {
      int next = (h ^ by) * 1103515245 + 12345;
      return next ^ next >>> 15;
    }
  }

  /** The last things done, each as it was ahead of it. */
  private static final class History {
    int steps;
    private int next;
    private final Going[] kept = new Going[MOST_UNDONE];

    History() {
      for (int i = 0; i < MOST_UNDONE; i++) {
        kept[i] = new Going();
      }
    }

    void keep(Going going) {
      kept[next].copyFrom(going);
      next = next + 1 < MOST_UNDONE ? next + 1 : 0;
      steps = Math.min(MOST_UNDONE, steps + 1);
    }

    boolean giveBack(Going going) {
      if (steps <= 0) {
        return false;
      }
      steps--;
      next = next > 0 ? next - 1 : MOST_UNDONE - 1;
      going.copyFrom(kept[next]);
      return true;
    }
  }

  /** Looks for the least that must be lost, for one BRIDGE and for all. */
  private static final class Plan {
    /** More than any plan costs, and so small that a few of it can be added up. */
    private static final int TOO_MUCH = 1000000;

    private static final int CROWDS = 1 << MOST_BEINGS;

    int cheapLost;
    int cheapBeing;
    int cheapWay;
    int leastLost;
    final int[] bestBeing = new int[MOST_BRIDGES];
    final int[] bestWay = new int[MOST_BRIDGES];

    /** Who is left and what he has learnt by then. */
    private final Going then = new Going();

    private final int[] tryBeing = new int[MOST_BRIDGES];
    private final int[] tryWay = new int[MOST_BRIDGES];
    /** By a BEING and a WAY (none first): whether it is the one to look at for its set. */
    private final boolean[] isWorth = new boolean[MOST_PAIRS];

    private final int[] price = new int[MOST_BEINGS];
    /**
     * By a BRIDGE and those who are left (bits): what it and those behind it cost at least, were
     * nothing more learnt. It keeps the search for all short.
     */
    private final int[] atLeast = new int[(MOST_BRIDGES + 1) * CROWDS];

    boolean findCheapest(Text text, Going going, int bridge) {
      cheapLost = TOO_MUCH;
      for (int being = 0; being < text.beings; being++) {
        int way = cheapestWay(text, going, bridge, being);
        int lost = text.loss[being] + text.costOf(way);
        if (way != NOT_SO && going.isThere(being) && lost < cheapLost) {
          cheapLost = lost;
          cheapBeing = being;
          cheapWay = way;
        }
      }
      return cheapLost < TOO_MUCH;
    }

    /** The WAY of least COST by which a BEING is TAKEN, none first; NOT_SO: there is none. */
    private static int cheapestWay(Text text, Going going, int bridge, int being) {
      int best = NOT_SO;
      for (int way = NONE; way < text.ways; way++) {
        boolean isBetter = best == NOT_SO || text.costOf(way) < text.costOf(best);
        if (isBetter && going.takes(text, bridge, text.setOf(being, way))) {
          best = way;
        }
      }
      return best;
    }

    boolean findForAll(Text text, Going going) {
      then.copyFrom(going);
      leastLost = TOO_MUCH;
      int crowds = 1 << text.beings;
      Arrays.fill(atLeast, text.bridges * CROWDS, text.bridges * CROWDS + crowds, 0);
      for (int bridge = text.bridges - 1; bridge >= 0; bridge--) {
        if (then.phase[bridge] == CLOSED) {
          lookUpPrices(text, bridge);
          for (int left = 0; left < crowds; left++) {
            atLeast[bridge * CROWDS + left] = leastFrom(bridge, left);
          }
        } else {
          System.arraycopy(atLeast, (bridge + 1) * CROWDS, atLeast, bridge * CROWDS, crowds);
        }
      }
      if (atLeast[then.there] < TOO_MUCH) {
        lookUpWays(text);
        choose(text, 0, 0);
      }
      return leastLost < TOO_MUCH;
    }

    private void lookUpWays(Text text) {
      for (int being = 0; being < text.beings; being++) {
        for (int way = NONE; way < text.ways; way++) {
          isWorth[pairOf(being, way)] = isFirstToItsSet(text, being, way);
        }
      }
    }

    private static int pairOf(int being, int way) {
      return being * (MOST_WAYS + 1) + way + 1;
    }

    /** No other WAY makes the same set of the BEING for less, or for as much and told ahead. */
    private static boolean isFirstToItsSet(Text text, int being, int way) {
      for (int other = NONE; other < text.ways; other++) {
        int more = text.costOf(other) - text.costOf(way);
        boolean isAhead = more < 0 || more == 0 && other < way;
        if (isAhead && text.setOf(being, other) == text.setOf(being, way)) {
          return false;
        }
      }
      return true;
    }

    private void lookUpPrices(Text text, int bridge) {
      Arrays.fill(price, TOO_MUCH);
      for (int being = 0; being < text.beings; being++) {
        int way = cheapestWay(text, then, bridge, being);
        if (way != NOT_SO) {
          price[being] = text.loss[being] + text.costOf(way);
        }
      }
    }

    private int leastFrom(int bridge, int left) {
      int least = TOO_MUCH;
      for (int being = 0; being < MOST_BEINGS; being++) {
        if ((left >>> being & 1) != 0) {
          int behind = atLeast[(bridge + 1) * CROWDS + (left & ~(1 << being))];
          least = Math.min(least, price[being] + behind);
        }
      }
      return least;
    }

    /**
     * Goes through the choices for this BRIDGE and those behind it in the order in which alike ones
     * count, so that only a better one takes the place of the best.
     */
    private void choose(Text text, int bridge, int lost) {
      if (bridge >= text.bridges) {
        leastLost = lost;
        System.arraycopy(tryBeing, 0, bestBeing, 0, MOST_BRIDGES);
        System.arraycopy(tryWay, 0, bestWay, 0, MOST_BRIDGES);
        return;
      }
      if (then.phase[bridge] != CLOSED) {
        choose(text, bridge + 1, lost);
        return;
      }
      for (int being = 0; being < text.beings; being++) {
        int behind = atLeast[(bridge + 1) * CROWDS + (then.there & ~(1 << being))];
        for (int way = NONE; way < text.ways && then.isThere(being); way++) {
          int lostThen = lost + text.loss[being] + text.costOf(way);
          int set = text.setOf(being, way);
          boolean isBetter = isWorth[pairOf(being, way)] && lostThen + behind < leastLost;
          if (isBetter && then.takes(text, bridge, set)) {
            tryBeing[bridge] = being;
            tryWay[bridge] = way;
            chooseBehind(text, bridge, lostThen, set);
          }
        }
      }
    }

    /** Goes on to the next BRIDGE, as if the set had gone over this one. */
    private void chooseBehind(Text text, int bridge, int lost, int set) {
      int thereBefore = then.there;
      int learntBefore = then.learntCount;
      then.there &= ~(1 << tryBeing[bridge]);
      if ((set & SOUL) == 0) {
        then.learn(set);
      }
      choose(text, bridge + 1, lost);
      then.there = thereBefore;
      then.learntCount = learntBefore;
    }
  }

  /** The sets of the CHEATS for a BRIDGE, and what shuts them out. */
  private static final class Cheated {
    int many;
    private final int[] sets = new int[MOST_PAIRS];

    void gather(Text text, Going going, int bridge) {
      many = 0;
      for (int being = 0; being < text.beings; being++) {
        for (int way = NONE; way < text.ways && going.isThere(being); way++) {
          int set = text.setOf(being, way);
          if ((set & SOUL) == 0 && many < sets.length && going.takes(text, bridge, set)) {
            sets[many] = set;
            many++;
          }
        }
      }
    }

    /** How many have one of these TRAITS (bits). */
    int shutOutBy(int bars) {
      int shut = 0;
      for (int i = 0; i < many; i++) {
        if ((sets[i] & bars) != 0) {
          shut++;
        }
      }
      return shut;
    }

    int traitToBar(int traits) {
      int best = 0;
      for (int trait = 1; trait < traits; trait++) {
        if (shutOutBy(1 << trait) > shutOutBy(1 << best)) {
          best = trait;
        }
      }
      return best;
    }

    /** The fewest TRAITS (bits) that shut all out; NONE if it takes more than three. */
    int fewestBars(int traits) {
      int bars = NONE;
      for (int size = 0; size <= MOST_SHUT && bars == NONE; size++) {
        bars = barsWith(size, 0, 0, traits);
      }
      return bars;
    }

    /** The first choice of some TRAITS more, from one on, that shuts all out. */
    private int barsWith(int more, int from, int bars, int traits) {
      if (more <= 0) {
        return shutOutBy(bars) == many ? bars : NONE;
      }
      for (int trait = from; trait < traits; trait++) {
        int found = barsWith(more - 1, trait + 1, bars | 1 << trait, traits);
        if (found != NONE) {
          return found;
        }
      }
      return NONE;
    }
  }

  /** What is TOLD of what went over. */
  private static final class Told {
    int many;
    private final int[] traits = new int[MOST_TOLD];
    private final boolean[] had = new boolean[MOST_TOLD];
    private int mustHave;
    private int mustLack;

    int add(int trait, boolean wasHad) {
      if (many >= MOST_TOLD) {
        return NONE;
      }
      traits[many] = trait;
      had[many] = wasHad;
      many++;
      return many - 1;
    }

    private void know(int k) {
      mustHave = 0;
      mustLack = 0;
      for (int i = 0; i < k && i < many; i++) {
        if (had[i]) {
          mustHave |= 1 << traits[i];
        } else {
          mustLack |= 1 << traits[i];
        }
      }
    }

    private boolean canBe(Text text, int bridge, int set) {
      return (set & mustHave) == mustHave
          && (set & mustLack) == 0
          && text.clauseHolds(bridge, set);
    }

    int countLeft(Text text, int bridge, int k) {
      know(k);
      return countWith(text, bridge, 0);
    }

    /** How many can be that have all of these TRAITS (bits). */
    private int countWith(Text text, int bridge, int bits) {
      int left = 0;
      for (int being = 0; being < text.beings; being++) {
        for (int way = NONE; way < text.ways; way++) {
          int set = text.setOf(being, way);
          if ((set & bits) == bits && canBe(text, bridge, set)) {
            left++;
          }
        }
      }
      return left;
    }

    int onlyBeing(Text text, int bridge, int k) {
      know(k);
      int only = NOT_SO;
      for (int being = 0; being < text.beings; being++) {
        boolean can = false;
        for (int way = NONE; way < text.ways; way++) {
          can |= canBe(text, bridge, text.setOf(being, way));
        }
        if (can && only != NOT_SO) {
          return NOT_SO;
        }
        only = can ? being : only;
      }
      return only;
    }

    int traitToAsk(Text text, int bridge, int k) {
      know(k);
      int left = countWith(text, bridge, 0);
      int best = NOT_SO;
      int fewest = left + 1;
      for (int trait = 0; trait < text.traits && left > 0; trait++) {
        int with = countWith(text, bridge, 1 << trait);
        int atWorst = Math.max(with, left - with);
        if (atWorst < fewest) {
          fewest = atWorst;
          best = trait;
        }
      }
      return best;
    }
  }
}
