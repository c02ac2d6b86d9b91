/** The edges of promises 10 to 13: the tape, and what can stand in the texts of readers and makers; each FAULT and its place. */
public final class EdgesOfTextsTest {
  private static final int CANNOT_STAND = 0, BAD_NUMBER = 1, TOO_DEEP = 2, ONE_TOO_MANY = 3, CLAUSE_TOO_MANY = 4;
  private static final String[] VALUE_WORDS = {"apart", "own", "late", "wrong", "shared", "nowhere", "pages", "price", "week", "volumes"};
  private static final String[] OTHER_WORDS = {"yes", "takes", "coins", "pace", "slips", "from", "of", "if", "or", "and", "not"};
  private static final String[] SIGNS = {"<", "<=", "=", ">=", ">", "+", "-", "*", "[", "]", ";"};

  public static void main(String[] args) {
    feed();
    bytesOfFeed();
    end();
    eightReaders();
    sixMakers();
    eachReaderForItself();
    eachMakerForItself();
    emptyTape();
    longTexts();
    settings();
    onceEach();
    clauses();
    digits();
    words();
    blanks();
    bytesThatCannotStand();
    whereWhatStands();
    whereWhatStandsForMakers();
    ends();
    signs();
    deep();
    many();
    firstFaultAndLeast();
    Edge.finish(10, 13);
  }

  private static int faulty(int place, int kind) { return -2 - (1 + 8 * place + kind); }
  /** The text is no READER: which FAULT, and that the TAPE is empty and no READER more behind it. */
  private static void fault(String text, int place, int kind) {
    SafeVolumes x = new SafeVolumes();
    Edge.due("reader() of [" + text + "]", Edge.reader(x, text), faulty(place, kind));
    Edge.due("the READERS behind [" + text + "]", x.count(6), 0);
    Edge.due("the TAPE behind [" + text + "]", x.count(11), 0);
  }
  private static void makersFault(String text, int place, int kind) {
    SafeVolumes x = new SafeVolumes();
    Edge.due("maker() of [" + text + "]", Edge.maker(x, text), faulty(place, kind));
    Edge.due("the MAKERS behind [" + text + "]", x.count(7), 0);
    Edge.due("the TAPE behind [" + text + "]", x.count(11), 0);
  }
  private static void right(String text) {
    SafeVolumes x = new SafeVolumes();
    Edge.due("reader() of [" + text + "]", Edge.reader(x, text), 0);
    Edge.due("the READERS behind [" + text + "]", x.count(6), 1);
  }
  private static void makersRight(String text) {
    SafeVolumes x = new SafeVolumes();
    Edge.due("maker() of [" + text + "]", Edge.maker(x, text), 0);
    Edge.due("the MAKERS behind [" + text + "]", x.count(7), 1);
  }
  private static String times(int n, String s, String between) {
    StringBuilder b = new StringBuilder();
    for (int i = 0; i < n; i++) b.append(i > 0 ? between : "").append(s);
    return b.toString();
  }
  private static String times(int n, String s) { return times(n, s, ""); }

  // ---- the TAPE

  private static void feed() {
    Edge.says(10, "Twenty bytes come behind the TAPE, of each number the highest first: how many it has; NONE, and none comes, if it would have more than 400.");
    SafeVolumes x = new SafeVolumes();
    for (int i = 20; i <= 400; i += 20) Edge.due("feed", x.feed(0, 0, 0, 0, 0), i);
    Edge.due("more than 400", x.feed(0, 0, 0, 0, 0), -1);
    Edge.due("bytes of the TAPE", x.count(11), 400);
    for (int n : new int[] {399, 390, 381}) {
      Edge.due("end", x.end(n), n);
      Edge.due("more than 400 by one or by some", x.feed(1, 1, 1, 1, 1), -1);
      Edge.due("bytes of the TAPE", x.count(11), n);
    }
    Edge.due("end", x.end(380), 380);
    Edge.due("400 just so", x.feed(0, 0, 0, 0, 0), 400);
    Edge.refused("a feed to 401", y -> { Edge.everything(y); Texts.feed(y, times(381, " ")); }, y -> y.feed(-1, -1, -1, -1, -1));
    Edge.refused("a feed to 420", y -> { Edge.everything(y); Texts.feed(y, "yes 1" + times(395, " ")); }, y -> y.feed(-1, -1, -1, -1, -1));
  }

  /** The five numbers spell a text of 20 bytes. */
  private static int spelled(String text) { SafeVolumes x = new SafeVolumes(); Edge.due("feed", x.feed(four(text, 0), four(text, 4), four(text, 8), four(text, 12), four(text, 16)), 20); return x.reader(); }
  private static int four(String text, int at) { return Texts.four(Texts.bytes(text), at); }
  private static void bytesOfFeed() {
    Edge.says(10, "of each number the highest first");
    SafeVolumes x = new SafeVolumes();
    x.feed(0x79657320, 0x31323334, 0x35202020, 0x20202020, 0x20202020);
    Edge.due("yes 12345", x.reader(), 0);
    for (int i = 0; i < 20; i++) {
      // a byte that cannot stand, above 127 and below: it is found at its place
      String blank = "yes 1" + times(15, " ");
      for (String no : new String[] {"\u00ff", "\u0080", "\u007f", "\u0000"}) {
        // what is left of yes is a WORD that can't stand
        int place = i < 3 ? 0 : i;
        Edge.due("a byte at " + i, spelled(blank.substring(0, i) + no + blank.substring(i + 1)), faulty(place, CANNOT_STAND));
      }
    }
    Edge.due("negative numbers", new SafeVolumes().feed(-1, Integer.MIN_VALUE, -256, -65536, -1), 20);
    Edge.says(10, "Twenty bytes come behind the TAPE");
    SafeVolumes y = new SafeVolumes();
    Texts.feed(y, "yes");
    Edge.due("behind three", y.feed(0x20313b20, 0x79657320, 0x32202020, 0x20202020, 0x20202020), 23);
    Edge.due("the whole", y.reader(), 0);
  }

  private static void end() {
    Edge.says(11, "The TAPE has its first n bytes alone: n; NONE, and nothing happens, if it has not so many, or n is below 0.");
    Edge.range("end(n) of none", Edge.NOTHING, (x, n) -> x.end(n), 0, 0, 0, 0, -1);
    Edge.range("end(n) of six", Edge::everything, (x, n) -> x.end(n), 0, 0, 6, 6, -1);
    Edge.range("end(n) of 400", x -> Texts.feed(x, times(400, " ")), (x, n) -> x.end(n), 0, 0, 400, 400, -1);
    SafeVolumes x = new SafeVolumes();
    Texts.feed(x, "yes 123456");
    Edge.due("end(9)", x.end(9), 9);
    Edge.due("not back to ten", x.end(10), -1);
    Edge.due("bytes", x.count(11), 9);
    Edge.due("its first nine", x.reader(), 0);
    Edge.due("its own length", Edge.told(y -> Texts.feed(y, "yes 1")).end(5), 5);
  }

  // ---- how many

  private static void eightReaders() {
    Edge.says(12, "READERS 0 to 7 and MAKERS 0 to 5: texts of at most 400 bytes.");
    Edge.due("the last READER", Edge.told(y -> { for (int i = 0; i < 7; i++) Edge.reader(y, "yes 1"); Texts.feed(y, "yes 1"); }).reader(), 7);
    Edge.due("the last MAKER", Edge.told(y -> { for (int i = 0; i < 5; i++) Edge.maker(y, "of 1"); Texts.feed(y, "of 1"); }).maker(), 5);
    Edge.says(12, "The TAPE, which is empty then, is a READER: the number; -2 - the FAULT; NONE, and nothing happens: there are 8.");
    SafeVolumes x = new SafeVolumes();
    for (int i = 0; i < 8; i++) {
      Edge.due("one with a FAULT takes no number", Edge.reader(x, "yes"), faulty(3, CANNOT_STAND));
      Edge.due("the TAPE is empty behind a FAULT", x.count(11), 0);
      Edge.due("reader", Edge.reader(x, "yes " + i), i);
      Edge.due("the TAPE is empty behind it", x.count(11), 0);
    }
    x.piece(0, 0, 0, 0, 0, 0, 0, 0);
    x.piece(0, 0, 0, 0, 0, 0, 0, 0);
    for (int i = 0; i < 8; i++) Edge.due("each is its own", x.chance(i, 0, 1), i);
    Edge.Telling eight = y -> { Edge.everything(y); for (int i = 2; i < 8; i++) Edge.reader(y, "yes " + i); };
    Edge.refused("a ninth", y -> { eight.on(y); Texts.feed(y, "yes 99"); }, SafeVolumes::reader);
    Edge.refused("a ninth with a FAULT", y -> { eight.on(y); Texts.feed(y, "yes yes"); }, SafeVolumes::reader);
    Edge.refused("a ninth that is empty", eight, SafeVolumes::reader);
    SafeVolumes full = Edge.told(y -> { eight.on(y); Texts.feed(y, "yes 99"); });
    Edge.due("a ninth", full.reader(), -1);
    Edge.due("the TAPE stays", full.count(11), 6);
    Edge.due("the READERS", full.count(6), 8);
  }

  private static void sixMakers() {
    Edge.says(13, "The same as a MAKER (of 6).");
    SafeVolumes x = new SafeVolumes();
    for (int i = 0; i < 6; i++) {
      Edge.due("one with a FAULT takes no number", Edge.maker(x, "pace"), faulty(4, CANNOT_STAND));
      Edge.due("the TAPE is empty behind a FAULT", x.count(11), 0);
      Edge.due("maker", Edge.maker(x, "of " + i), i);
      Edge.due("the TAPE is empty behind it", x.count(11), 0);
    }
    Edge.Telling six = y -> { Edge.everything(y); for (int i = 1; i < 6; i++) Edge.maker(y, "of " + i); };
    Edge.refused("a seventh", y -> { six.on(y); Texts.feed(y, "of 9"); }, SafeVolumes::maker);
    Edge.refused("a seventh with a FAULT", y -> { six.on(y); Texts.feed(y, "of of"); }, SafeVolumes::maker);
    Edge.refused("a seventh that is empty", six, SafeVolumes::maker);
    SafeVolumes full = Edge.told(y -> { six.on(y); Texts.feed(y, "of 9"); });
    Edge.due("a seventh", full.maker(), -1);
    Edge.due("the TAPE stays", full.count(11), 4);
    Edge.due("the MAKERS", full.count(7), 6);
    Edge.due("a READER has room", Edge.reader(full, "yes 5"), 2);
  }

  /** What ends each in its own way: right, with each FAULT, in the midst of all that can be open. */
  private static final String[] AHEAD = {"yes 9; takes 7; coins 8", "takes 7; coins 8; x", "takes 7; coins 8; takes 7", "coins 8; takes 100", "yes 99999; yes 123456",
      "yes 1 if [[not [not 1 = 1 and", "yes 1 if 1 + 2 *", "yes 1 if " + times(11, "["), "yes 1 if " + times(11, "not "), "yes " + times(61, "1", "+"),
      "takes 7; yes " + times(60, "1", "+"), times(12, "yes 1", ";") + ";yes 1", "yes 1 if [1=1", "yes 1 if " + times(10, "[") + "1=1" + times(10, "]"), ""};
  /** 60 VALUES and FACTS, ten deep, twelve CLAUSES: the CHANCE is 1. */
  private static final String ALL_THAT_CAN_STAND = "takes 3;yes " + times(48, "1", "+") + " if not " + times(9, "[") + "1=1" + times(9, "]") + times(9, ";yes 1") + ";coins 2";
  private static void eachReaderForItself() {
    Edge.says(12, "The TAPE, which is empty then, is a READER");
    for (String ahead : AHEAD) {
      SafeVolumes x = Edge.told(y -> Edge.pieces(y, 2));
      int n = Edge.reader(x, ahead) < 0 ? 0 : 1;
      Edge.due("behind [" + ahead + "] all that can stand in one", Edge.reader(x, ALL_THAT_CAN_STAND), n);
      Edge.reader(x, ahead);
      int m = x.count(6);
      Edge.due("behind [" + ahead + "] a plain one", Edge.reader(x, "yes 2 + 3 if 1 = 1; yes 4"), m);
      Edge.due("its CHANCE", x.chance(m, 0, 1), 5);
      Edge.due("takes 1 without", x.soonest(1 << m, 0, 1, 6), 1);
      Edge.due("takes of the other one", x.soonest(1 << n, 0, 1, 6), 3);
      Edge.due("CHANCE of the other one", x.chance(n, 0, 1), 1);
      Edge.reader(x, ahead);
      int k = x.count(6);
      Edge.due("behind [" + ahead + "] one without a yes", Edge.reader(x, "coins 5"), k);
      Edge.due("its CHANCE", x.chance(k, 0, 1), 500);
      SafeVolumes y = Edge.told(z -> Edge.pieces(z, 2));
      n = Edge.reader(y, ahead) < 0 ? 0 : 1;
      Edge.reader(y, "yes 0");
      Edge.due("behind [" + ahead + "] coins 1 without", y.surest(1, 0, 1), 1 << n);
    }
  }
  private static void eachMakerForItself() {
    Edge.says(13, "The same as a MAKER (of 6).");
    String[] before = {"from 0; pace 9; slips 1000; of 0", "from 0; pace 9; slips 1000; of 0; from", "from 0; pace 9; slips 1000; of 0; of 10", "from 0; pace 9; slips 1000; of 0; pace 1",
        times(11, "from 0", ";") + ";of 0;from 0", "from 0; pace 9; slips 1000; of 0;", "from 0; of 0; slips 1001", times(12, "from 0", ";")};
    for (String ahead : before) {
      SafeVolumes x = new SafeVolumes();
      Edge.stuffs(x, 1);
      Edge.piece(x, 0, 1);
      Edge.pieces(x, 2);
      for (int d = 0; d < 9; d++) { x.truth(d, 1); x.fact(0, d, 2); if (d < 5) x.page(1, d, 1); }
      Edge.maker(x, ahead);
      int m = x.count(7);
      Edge.due("behind [" + ahead + "]", Edge.maker(x, "from 1"), m);
      Edge.due("no STUFF of the one ahead", x.could(0) >> m, 0);
      Edge.due("no SOURCE of the one ahead", maker(x, m, 2), 0);
      Edge.due("pace 1 without", x.outrun(m, 0), 0);
      Edge.due("slips 0 without", x.make(m, 2, 0, 9, 0), 9);
      Edge.due("none is a slip", x.of(2, 1), 1);
      Edge.due("behind [" + ahead + "] all that can stand in one", Edge.maker(x, "pace 1;slips 1;" + times(10, "from 0", ";")), m + 1);
    }
  }
  /** Whether a maker could have made a page of a piece that the source 0 alone has: the page of day 20. */
  private static int maker(SafeVolumes x, int maker, int piece) {
    x.fact(0, 20, 7);
    x.page(piece, 20, 7);
    int could = x.could(piece) >> maker & 1;
    x.truth(20, 6);
    return could;
  }

  private static void emptyTape() {
    Edge.says(12, "or the end (behind the last byte)");
    fault("", 0, CANNOT_STAND);
    fault(" ", 1, CANNOT_STAND);
    fault(times(400, " "), 400, CANNOT_STAND);
    Edge.says(13, "or the end (behind the last byte)");
    makersFault("", 0, CANNOT_STAND);
    makersFault(times(400, " "), 400, CANNOT_STAND);
  }

  private static void longTexts() {
    Edge.says(12, "texts of at most 400 bytes");
    right("yes 1" + times(395, " "));
    right(times(395, " ") + "yes 1");
    right(times(12, "yes 1" + times(27, " "), ";"));
    right("yes" + times(396, " ") + "1");
    fault("yes 1" + times(394, " ") + "x", 399, CANNOT_STAND);
    fault("yes 1" + times(394, " ") + ";", 400, CANNOT_STAND);
    fault("yes" + times(397, " "), 400, CANNOT_STAND);
    fault(times(400, "a"), 0, CANNOT_STAND);
    fault("yes " + times(396, "1"), 4, BAD_NUMBER);
    fault("yes 1 if " + times(391, "["), 19, TOO_DEEP);
    fault(times(400, "\u00ff"), 0, CANNOT_STAND);
    Edge.says(13, "texts of at most 400 bytes");
    makersRight("of 1" + times(396, " "));
    makersFault("of 1" + times(395, " ") + "x", 399, CANNOT_STAND);
    makersFault("of " + times(397, "1"), 3, BAD_NUMBER);
  }

  // ---- CLAUSES

  private static void setting(String word, int least, int most, boolean ofReader) {
    String[] taken = {"" + least, "" + most, ("00000" + most).substring(("" + most).length()), ("00000" + least).substring(("" + least).length())};
    for (String n : taken) if (ofReader) right(word + " " + n); else makersRight(word + " " + n);
    String[] not = {"" + (most + 1), "99999", "100000", "000001", least > 0 ? "" + (least - 1) : "000000", times(40, "9")};
    for (String n : not) if (ofReader) fault(word + " " + n, word.length() + 1, BAD_NUMBER); else makersFault(word + " " + n, word.length() + 1, BAD_NUMBER);
    String below = word + " -1";
    if (ofReader) fault(below, word.length() + 1, CANNOT_STAND); else makersFault(below, word.length() + 1, CANNOT_STAND);
  }
  private static void settings() {
    Edge.says(12, "takes NUMBER (1 to 99)");
    setting("takes", 1, 99, true);
    Edge.says(12, "coins NUMBER (1 to 999)");
    setting("coins", 1, 999, true);
    Edge.says(13, "pace NUMBER (1 to 99)");
    setting("pace", 1, 99, false);
    Edge.says(13, "slips NUMBER (0 to 1000)");
    setting("slips", 0, 1000, false);
    Edge.says(13, "from NUMBER (0 to 5)");
    setting("from", 0, 5, false);
    Edge.says(13, "of NUMBER (0 to 9)");
    setting("of", 0, 9, false);
    Edge.says(12, "1 a NUMBER of more digits, or not as told");
    fault("yes 1;takes 0;yes", 12, BAD_NUMBER);
    fault("yes 1;coins    1000", 15, BAD_NUMBER);
    fault("takes100", 5, BAD_NUMBER);
    Edge.says(12, "takes, coins, pace, slips once at most each (1, 1, 1, 0 without).");
    SafeVolumes x = Edge.told(y -> Edge.pieces(y, 2));
    Edge.reader(x, "yes 0");
    Edge.reader(x, "yes 1");
    Edge.reader(x, "yes 1; takes 99; coins 999");
    Edge.due("takes 1 without", x.soonest(1, 0, 1, 6), 1);
    Edge.due("takes 99", x.soonest(4, 0, 1, 6), 99);
    Edge.due("not for 0 coins", x.surest(0, 0, 1), 0);
    Edge.due("coins 1 without", x.surest(1, 0, 1), 1);
    SafeVolumes z = Edge.told(y -> Edge.pieces(y, 2));
    Edge.reader(z, "yes 1; coins 999");
    Edge.due("not for 998 coins", z.surest(998, 0, 1), 0);
    Edge.due("coins 999", z.surest(999, 0, 1), 1);
  }

  private static void onceEach() {
    Edge.says(12, "a second takes, coins, pace, slips (at its first byte)");
    for (String word : new String[] {"takes", "coins"}) {
      right(word + " 1");
      fault(word + " 1;" + word + " 1", word.length() + 3, CLAUSE_TOO_MANY);
      fault(word + " 1;  " + word, word.length() + 5, CLAUSE_TOO_MANY);
      fault(word + " 1;yes 1; " + word + " 0", word.length() + 10, CLAUSE_TOO_MANY);
      fault(word + " 1;yes 1; " + word + " 123456", word.length() + 10, CLAUSE_TOO_MANY);
    }
    right("takes 1;coins 1;yes 1;yes 1");
    fault("takes 1;coins 1;takes 1", 16, CLAUSE_TOO_MANY);
    fault("takes 1;coins 1;coins 1", 16, CLAUSE_TOO_MANY);
    Edge.says(13, "a second takes, coins, pace, slips (at its first byte)");
    for (String word : new String[] {"pace", "slips"}) {
      makersRight(word + " 1");
      makersFault(word + " 1;" + word + " 1", word.length() + 3, CLAUSE_TOO_MANY);
      makersFault(word + " 1;from 1; " + word + " 5000", word.length() + 11, CLAUSE_TOO_MANY);
    }
    makersRight("pace 1;slips 1");
    Edge.says(13, "from NUMBER (0 to 5) | of NUMBER (0 to 9). takes, coins, pace, slips once at most each");
    makersRight("from 1;from 1;from 1;of 1;of 1;of 1");
    makersRight(times(12, "from 5", ";"));
    makersRight(times(12, "of 9", ";"));
  }

  private static void clauses() {
    Edge.says(12, "CLAUSE { ; CLAUSE }, 12 at most.");
    right("yes 1");
    right(times(12, "yes 1", ";"));
    right(times(10, "yes 1", ";") + ";takes 1;coins 1");
    fault(times(12, "yes 1", ";") + ";", 72, CANNOT_STAND);
    fault(";", 0, CANNOT_STAND);
    fault("yes 1;;yes 1", 6, CANNOT_STAND);
    fault(";yes 1", 0, CANNOT_STAND);
    Edge.says(12, "4 a thirteenth CLAUSE, or a second takes, coins, pace, slips (at its first byte)");
    fault(times(13, "yes 1", ";"), 72, CLAUSE_TOO_MANY);
    fault(times(12, "yes 1", ";") + ";   yes", 75, CLAUSE_TOO_MANY);
    fault(times(12, "yes 1", ";") + ";takes 1", 72, CLAUSE_TOO_MANY);
    fault(times(12, "yes 1", ";") + ";coins 0", 72, CLAUSE_TOO_MANY);
    fault("takes 1;" + times(11, "yes 1", ";") + ";takes 1", 74, CLAUSE_TOO_MANY);
    Edge.says(13, "4 a thirteenth CLAUSE");
    makersRight(times(12, "of 1", ";"));
    makersFault(times(13, "of 1", ";"), 60, CLAUSE_TOO_MANY);
    for (String word : new String[] {"pace 1", "slips 1", "from 1"}) makersFault(times(12, "of 1", ";") + ";" + word, 60, CLAUSE_TOO_MANY);
    makersFault(times(12, "of 1", ";") + ";", 60, CANNOT_STAND);
  }

  // ---- NUMBERS, WORDS, blanks

  private static void digits() {
    Edge.says(12, "NUMBER (1 to 5 digits, as far as digits go on)");
    for (String n : new String[] {"0", "9", "10", "99999", "00000"}) {
      right("yes " + n);
      right("yes 1 if " + n + "=" + n);
    }
    for (String n : new String[] {"100000", "000000", "999999", "1234567890123456789012"}) {
      fault("yes " + n, 4, BAD_NUMBER);
      fault("yes 1 + " + n, 8, BAD_NUMBER);
      fault("yes 1 if " + n + " = 1", 9, BAD_NUMBER);
      fault("yes 1 if 1 =" + n, 12, BAD_NUMBER);
    }
    fault("yes 12345 6", 10, CANNOT_STAND);
    fault("yes 1 2", 6, CANNOT_STAND);
    right("yes 12345if 1=1");
    fault("yes 1a", 5, CANNOT_STAND);
    fault("yes 1.5", 5, CANNOT_STAND);
    Edge.says(12, "1 a NUMBER of more digits, or not as told");
    fault("yes 1 if 1 = 1 and 123456 = 1", 19, BAD_NUMBER);
    Edge.due("00012 is 12", chanceOf("yes 00012"), 12);
    Edge.due("99999 is 99999", chanceOf("yes 99999 - 99998"), 1);
  }
  private static int chanceOf(String text) { SafeVolumes x = Edge.told(y -> Edge.pieces(y, 2)); Edge.reader(x, text); return x.chance(0, 0, 1); }

  private static void words() {
    Edge.says(12, "WORDS (small letters, as far as these go on)");
    for (String word : VALUE_WORDS) {
      right("yes " + word);
      right("yes" + " " + word + "*2");
      right("yes 2*" + word + "+1");
      fault("yes " + word.substring(0, word.length() - 1), 4, CANNOT_STAND);
      fault("yes " + word.substring(1), 4, CANNOT_STAND);
      fault("yes " + word + "s", 4, CANNOT_STAND);
      fault("yes " + word + word, 4, CANNOT_STAND);
      fault("yes" + word, 0, CANNOT_STAND);
      fault("yes " + Character.toUpperCase(word.charAt(0)) + word.substring(1), 4, CANNOT_STAND);
      fault("yes " + word.substring(0, word.length() - 1) + Character.toUpperCase(word.charAt(word.length() - 1)), 4, CANNOT_STAND);
      fault("yes " + word + "1", 4 + word.length(), CANNOT_STAND);
      fault("yes " + word + "A", 4 + word.length(), CANNOT_STAND);
    }
    for (String word : new String[] {"ye", "yess", "y", "e", "take", "takess", "coin", "coinss", "", "es", "yesyes"}) fault(word + " 1", word.isEmpty() ? 1 : 0, CANNOT_STAND);
    for (String word : new String[] {"i", "iff", "f", "ifif", "of"}) fault("yes 1 " + word + " 1=1", 6, CANNOT_STAND);
    for (String word : new String[] {"an", "andd", "o", "orr", "nd", "andor", "r"}) fault("yes 1 if 1=1 " + word + " 1=1", 13, CANNOT_STAND);
    for (String word : new String[] {"no", "nott", "notnot", "ot"}) fault("yes 1 if " + word + " 1=1", 9, CANNOT_STAND);
    Edge.says(13, "WORDS (small letters, as far as these go on)");
    for (String word : new String[] {"pac", "pacee", "slip", "slipss", "fro", "fromm", "o", "off", "ofof", "p", ""}) makersFault(word + " 1", word.isEmpty() ? 1 : 0, CANNOT_STAND);
  }

  private static void blanks() {
    Edge.says(12, "Blanks (32) stand between as one likes.");
    right("yes1");
    right("yes1if1=1");
    right("yes1if[1=1]and[1<=1]or not[1>1];takes1;coins1");
    right("   yes   1   if   [   1   =   1   ]   and   not   1   <=   1   ;   takes   1   ");
    fault("ye s 1", 0, CANNOT_STAND);
    fault("yes 1 2", 6, CANNOT_STAND);
    fault("yes 1 if 1 < = 1", 13, CANNOT_STAND);
    fault("yes 1 if 1 > = 1", 13, CANNOT_STAND);
    for (String no : new String[] {"\t", "\n", "\r", "\u0000", "\u001f", "!", "\u00a0"}) {
      fault("yes" + no + "1", 3, CANNOT_STAND);
      fault("yes 1" + no, 5, CANNOT_STAND);
      fault(no + "yes 1", 0, CANNOT_STAND);
    }
    Edge.says(13, "Blanks (32) stand between as one likes.");
    makersRight("pace1;from2;of3;slips4");
    makersRight("  pace  1  ;  from  2  ;  of  3  ;  slips  4  ");
  }

  private static void bytesThatCannotStand() {
    Edge.says(12, "0 a byte or WORD that can't stand there, or the end (behind the last byte)");
    String known = " 0123456789abcdefghijklmnopqrstuvwxyz<=>+-*[];";
    for (int i = 0; i < 256; i++) {
      char one = (char) i;
      if (known.indexOf(one) >= 0) continue;
      fault("yes 1 + " + one, 8, CANNOT_STAND);
      fault("yes 1" + one, 5, CANNOT_STAND);
      makersFault("of 1" + one, 4, CANNOT_STAND);
    }
  }

  // ---- what can stand where

  /** Behind a right beginning each thing that can't stand there is a FAULT at its own place; the others are none there. */
  private static void onlyThese(String ahead, boolean ofReader, String... may) {
    java.util.Set<String> can = new java.util.HashSet<>();
    for (String s : may) {
      if (s.equals("VALUE")) { can.addAll(java.util.List.of(VALUE_WORDS)); can.add("1"); }
      else if (s.equals("SIGN")) can.addAll(java.util.List.of("<", "<=", "=", ">=", ">"));
      else can.add(s);
    }
    java.util.List<String> all = new java.util.ArrayList<>(java.util.List.of(VALUE_WORDS));
    all.addAll(java.util.List.of(OTHER_WORDS));
    all.addAll(java.util.List.of(SIGNS));
    all.addAll(java.util.List.of("1", "(", "age", "A", "\u00e9"));
    for (String s : all) {
      SafeVolumes x = new SafeVolumes();
      String text = ahead + " " + s;
      int got = ofReader ? Edge.reader(x, text) : Edge.maker(x, text), here = faulty(ahead.length() + 1, CANNOT_STAND);
      if (can.contains(s)) Edge.due("[" + text + "]: it can stand there: FAULT " + (-2 - got) + ": ", got != here, true);
      else Edge.due("[" + text + "]", got, here);
    }
  }
  private static void whereWhatStands() {
    Edge.says(12, "Of a READER: yes SUM [ if TEST ] | takes NUMBER (1 to 99) | coins NUMBER (1 to 999).");
    onlyThese("", true, "yes", "takes", "coins");
    onlyThese("yes 1;", true, "yes", "takes", "coins");
    onlyThese("takes", true, "1");
    onlyThese("coins", true, "1");
    onlyThese("takes 1", true, ";");
    onlyThese("yes", true, "VALUE");
    onlyThese("yes 1", true, "+", "-", "*", "if", ";");
    onlyThese("yes apart", true, "+", "-", "*", "if", ";");
    Edge.says(12, "SUM: TERM { (+ or -) TERM }. TERM: VALUE { * VALUE }.");
    for (String sign : new String[] {"+", "-", "*"}) {
      onlyThese("yes 1 " + sign, true, "VALUE");
      onlyThese("yes 1 if 1 " + sign, true, "VALUE");
      onlyThese("yes 1 if 1 = 1 " + sign, true, "VALUE");
    }
    Edge.says(12, "TEST: PART { or PART }. PART: FACT { and FACT }. FACT: not FACT | [ TEST ] (these brackets are signs) | SUM SIGN SUM, SIGN one of < <= = >= >.");
    for (String word : new String[] {"if", "if not", "if [", "if 1=1 and", "if 1=1 or", "if [1=1 and", "if [1=1 or", "if not not", "if [[", "if [1=1] or"}) {
      onlyThese("yes 1 " + word, true, "VALUE", "not", "[");
    }
    onlyThese("yes 1 if 1", true, "+", "-", "*", "SIGN");
    onlyThese("yes 1 if [1", true, "+", "-", "*", "SIGN");
    onlyThese("yes 1 if not 1", true, "+", "-", "*", "SIGN");
    for (String sign : new String[] {"<", "<=", "=", ">=", ">"}) onlyThese("yes 1 if 1 " + sign, true, "VALUE");
    onlyThese("yes 1 if 1=1", true, "+", "-", "*", "and", "or", ";");
    onlyThese("yes 1 if not 1=1", true, "+", "-", "*", "and", "or", ";");
    onlyThese("yes 1 if [1=1", true, "+", "-", "*", "and", "or", "]");
    onlyThese("yes 1 if [not 1=1", true, "+", "-", "*", "and", "or", "]");
    onlyThese("yes 1 if [1=1]", true, "and", "or", ";");
    onlyThese("yes 1 if not [1=1]", true, "and", "or", ";");
    onlyThese("yes 1 if [[1=1]", true, "and", "or", "]");
    onlyThese("yes 1 if [1=1 or [1=1]", true, "and", "or", "]");
    onlyThese("yes 1 if [[1=1]]", true, "and", "or", ";");
  }
  private static void whereWhatStandsForMakers() {
    Edge.says(13, "Of a MAKER: pace NUMBER (1 to 99) | slips NUMBER (0 to 1000) | from NUMBER (0 to 5) | of NUMBER (0 to 9).");
    onlyThese("", false, "pace", "slips", "from", "of");
    onlyThese("pace 1;", false, "pace", "slips", "from", "of");
    for (String word : new String[] {"pace", "slips", "from", "of"}) {
      onlyThese(word, false, "1");
      onlyThese(word + " 1", false, ";");
    }
  }

  private static void ends() {
    Edge.says(12, "or the end (behind the last byte)");
    String[] half = {"yes", "takes", "coins", "yes 1;", "yes 1+", "yes 1-", "yes 1*", "yes 1 if", "yes 1 if 1", "yes 1 if 1=", "yes 1 if not", "yes 1 if [",
        "yes 1 if [1=1", "yes 1 if [[1=1]", "yes 1 if 1=1 and", "yes 1 if 1=1 or", "yes 1 if 1=1+", "yes 1 if apart", "takes 1;"};
    for (String text : half) {
      fault(text, text.length(), CANNOT_STAND);
      fault(text + "   ", text.length() + 3, CANNOT_STAND);
    }
    fault("yes 1 if [1=1;yes 1", 13, CANNOT_STAND);
    fault("yes 1 if [1=1]];yes 1", 14, CANNOT_STAND);
    fault("yes 1 if 1=1]", 12, CANNOT_STAND);
    Edge.says(13, "or the end (behind the last byte)");
    for (String text : new String[] {"pace", "slips", "from", "of", "pace 1;", "of 1 ; "}) makersFault(text, text.length(), CANNOT_STAND);
  }

  private static void signs() {
    Edge.says(12, "SIGN one of < <= = >= >");
    for (String sign : new String[] {"<", "<=", "=", ">=", ">"}) right("yes 1 if 1" + sign + "1");
    fault("yes 1 if 1==1", 11, CANNOT_STAND);
    fault("yes 1 if 1=<1", 11, CANNOT_STAND);
    fault("yes 1 if 1=>1", 11, CANNOT_STAND);
    fault("yes 1 if 1<>1", 11, CANNOT_STAND);
    fault("yes 1 if 1<<1", 11, CANNOT_STAND);
    fault("yes 1 if 1<==1", 12, CANNOT_STAND);
    fault("yes 1 if 1>==1", 12, CANNOT_STAND);
    fault("yes 1 if 1=1=1", 12, CANNOT_STAND);
    fault("yes 1 if 1<1<1", 12, CANNOT_STAND);
    fault("yes 1<=1", 5, CANNOT_STAND);
    fault("yes 1 if <=1", 9, CANNOT_STAND);
    fault("yes 1 if 1!1", 10, CANNOT_STAND);
  }

  // ---- too deep, too many

  private static void deep() {
    Edge.says(12, "[ and not lie within one another 10 deep at most");
    right("yes 1 if " + times(10, "[") + "1=1" + times(10, "]"));
    right("yes 1 if " + times(10, "not ") + "1=1");
    right("yes 1 if " + times(5, "not [") + "1=1" + times(5, "]"));
    right("yes 1 if " + times(5, "[not ") + "1=1" + times(5, "]"));
    right("yes 1 if " + times(9, "[") + "not 1=1 and not 1=1 or not 1=1" + times(9, "]"));
    right("yes 1 if " + times(9, "[") + "[1=1] and [1=1]" + times(9, "]") + " or " + times(10, "[") + "1=1" + times(10, "]"));
    right("yes 1 if " + times(10, "not ") + "1=1 and " + times(10, "not ") + "1=1 or " + times(10, "[") + "1=1" + times(10, "]"));
    right("yes 1 if " + times(10, "[") + "1=1" + times(10, "]") + ";yes 1 if " + times(10, "not ") + "1=1;yes 1 if " + times(10, "[") + "1=1" + times(10, "]"));
    right("yes 1 if not [not 1=1 and " + times(8, "not ") + "1=1]");
    Edge.says(12, "2 too deep (at the sign that opens, or the word not)");
    fault("yes 1 if " + times(11, "[") + "1=1" + times(11, "]"), 19, TOO_DEEP);
    fault("yes 1 if " + times(11, "not ") + "1=1", 49, TOO_DEEP);
    fault("yes 1 if " + times(10, "not ") + "[1=1]", 49, TOO_DEEP);
    fault("yes 1 if " + times(10, "[") + "not 1=1" + times(10, "]"), 19, TOO_DEEP);
    fault("yes 1 if " + times(10, "[") + "1=1 and not 1=1" + times(10, "]"), 27, TOO_DEEP);
    fault("yes 1 if " + times(10, "[") + "1=1 or [", 26, TOO_DEEP);
    fault("yes 1 if " + times(5, "not [") + "not 1=1", 34, TOO_DEEP);
    fault("yes 1 if not [not 1=1 and " + times(9, "not ") + "1=1]", 26 + 32, TOO_DEEP);
    fault("yes 1 if " + times(10, "[") + "1=1" + times(10, "]") + " and " + times(11, "[") + "1=1", 9 + 23 + 5 + 10, TOO_DEEP);
    fault("yes 1 if " + times(10, "not ") + "1=1;yes 1 if " + times(11, "not "), 9 + 43 + 10 + 40, TOO_DEEP);
    fault("yes 1 if " + times(10, "[") + "]", 19, CANNOT_STAND);
  }

  private static void many() {
    Edge.says(12, "at most 60 VALUES and FACTS made of a SIGN, together");
    right("yes " + times(60, "1", "+"));
    right("yes " + times(60, "own", "*"));
    right(times(12, "yes 1+1+1+1+1", ";"));
    right("yes 1 if " + times(19, "1=1", " and "));
    right("yes 1+1+1 if " + times(19, "1=1", " and "));
    right("yes 1+1 if [1=1] and not " + times(18, "1=1", " or ") + ";yes 1");
    Edge.says(12, "(NUMBERS of takes, coins, pace, slips, from, of are no VALUES)");
    right("takes 1;yes " + times(60, "1", "+") + ";coins 1");
    right("coins 1;takes 1;yes " + times(30, "1", "+") + ";yes " + times(30, "1", "+"));
    Edge.says(12, "3 one VALUE or FACT too many (at its first byte; of a FACT at its SIGN)");
    fault("yes " + times(61, "1", "+"), 124, ONE_TOO_MANY);
    fault("yes " + times(60, "1", "+") + " + own", 126, ONE_TOO_MANY);
    fault("yes " + times(60, "1", "+") + ";yes 1", 128, ONE_TOO_MANY);
    fault("yes " + times(60, "1", "+") + " if 1=1", 127, ONE_TOO_MANY);
    fault("yes " + times(60, "1", "+") + " if not [ 1=1", 133, ONE_TOO_MANY);
    fault("yes " + times(59, "1", "+") + " if 1=1", 126, ONE_TOO_MANY);
    fault("yes " + times(59, "1", "+") + " if 1 <= 1", 127, ONE_TOO_MANY);
    fault("yes " + times(58, "1", "+") + " if 1=1", 125, ONE_TOO_MANY);
    fault("yes " + times(58, "1", "+") + " if 1=   apart", 128, ONE_TOO_MANY);
    fault("yes " + times(57, "1", "+") + " if 1=1+1", 125, ONE_TOO_MANY);
    fault("yes " + times(57, "1", "+") + " if 1=1 and 1=1", 129, ONE_TOO_MANY);
    fault("yes " + times(56, "1", "+") + " if 1=1 and 1=1", 128, ONE_TOO_MANY);
    fault("yes 1 if " + times(20, "1=1", " and "), 9 + 19 * 8 + 2, ONE_TOO_MANY);
    fault(times(11, "yes 1+1+1+1+1", ";") + ";yes 1+1+1+1+1+1", 11 * 14 + 14, ONE_TOO_MANY);
    fault("takes 1;yes " + times(60, "1", "+") + ";coins 1;yes 1", 8 + 123 + 8 + 5, ONE_TOO_MANY);
  }

  private static void firstFaultAndLeast() {
    Edge.says(12, "FAULTS, the first along the text, 1 + 8 * its place and:");
    fault("x", 0, CANNOT_STAND);
    fault("takes 0;x", 6, BAD_NUMBER);
    fault("x;takes 0", 0, CANNOT_STAND);
    fault("yes 1;takes 1;takes 1;takes 0;x", 14, CLAUSE_TOO_MANY);
    fault("yes 1 if " + times(11, "[") + " x", 19, TOO_DEEP);
    fault("yes 1 if " + times(10, "[") + " x [", 20, CANNOT_STAND);
    fault("yes " + times(61, "1", "+") + "+123456", 124, ONE_TOO_MANY);
    fault("yes 123456 + " + times(61, "1", "+"), 4, BAD_NUMBER);
    Edge.says(12, "Of one place the least.");
    fault("yes " + times(60, "1", "+") + "+123456", 124, BAD_NUMBER);
    fault("yes " + times(60, "1", "+") + "+x", 124, CANNOT_STAND);
    fault("yes " + times(60, "1", "+") + "+", 124, CANNOT_STAND);
    fault("yes " + times(60, "1", "+") + "+yes", 124, CANNOT_STAND);
    fault("yes " + times(57, "1", "+") + " if 1=1 =", 125, CANNOT_STAND);
    fault("yes " + times(60, "1", "+") + " 123456", 124, CANNOT_STAND);
    fault(times(12, "yes 1", ";") + ";pace 1", 72, CANNOT_STAND);
    fault(times(12, "yes 1", ";") + ";1", 72, CANNOT_STAND);
    fault(times(12, "yes 1", ";") + ";123456", 72, CANNOT_STAND);
    fault("takes 1;take 1", 8, CANNOT_STAND);
    makersFault("pace 1;takes 1", 7, CANNOT_STAND);
    makersFault(times(12, "of 1", ";") + ";yes 1", 60, CANNOT_STAND);
  }
}
