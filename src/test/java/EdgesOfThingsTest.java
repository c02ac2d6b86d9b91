/** The edges of promises 1 to 9: a new object, the clock, stuffs, days, facts, pieces, pages, and what is of them. */
public final class EdgesOfThingsTest {
  private static final int FIRST = 0, LAST = 9999, MOST = Integer.MAX_VALUE, LEAST = Integer.MIN_VALUE;

  public static void main(String[] args) {
    newObject();
    theLastPromisedCall();
    clock();
    stuffs();
    truths();
    facts();
    pieces();
    hands();
    stuffsOfPieces();
    pages();
    pagesOfNeighbours();
    questions();
    ages();
    wrongPages();
    sharedPages();
    nowherePages();
    tooYoung();
    sharedWith();
    Edge.finish(1, 9);
  }

  private static void newObject() {
    Edge.says(1, "Nothing told.");
    SafeVolumes x = new SafeVolumes();
    for (int i = 0; i <= 11; i++) Edge.due("count(" + i + ")", x.count(i), 0);
    Edge.due("grows()", x.grows(), 0);
    for (int n : new int[] {-1, 0, 1}) {
      Edge.due("of(" + n + ",0)", x.of(n, 0), -1);
      Edge.due("shared(" + n + ",0)", x.shared(n, 0), -1);
      Edge.due("chance(" + n + ",0,1)", x.chance(n, 0, 1), -1);
      Edge.due("tells(" + n + ",0,1,2)", x.tells(n, 0, 1, 2), -2000);
      Edge.due("look(" + n + ",0,1,0)", x.look(n, 0, 1, 0), -1);
      Edge.due("test(" + n + ",0)", x.test(n, 0), -1);
      Edge.due("keep(" + n + ",0)", x.keep(n, 0), -1);
      Edge.due("stand(" + n + ",0)", x.stand(n, 0), -1);
      Edge.due("cost(" + n + ")", x.cost(n), -1);
      Edge.due("cheapest(" + n + ")", x.cheapest(n), -1);
      Edge.due("likely(" + n + ")", x.likely(n), -1);
      Edge.due("kin(" + n + ",1)", x.kin(n, 1), -1);
      Edge.due("could(" + n + ")", x.could(n), -1);
      Edge.due("outrun(" + n + ",0)", x.outrun(n, 0), -1);
      Edge.due("make(" + n + ",0,0,1,0)", x.make(n, 0, 0, 1, 0), -1);
      Edge.due("soonest(" + n + ",0,1,6)", x.soonest(n, 0, 1, 6), -1);
      Edge.due("surest(0," + n + ",1)", x.surest(0, n, 1), -1);
      Edge.due("page(" + n + ",0,0)", x.page(n, 0, 0), -1);
      Edge.due("ask(" + n + ")", x.ask(n), false);
      Edge.due("unasked(" + n + ",0)", x.unasked(n, 0), -1);
      Edge.due("gain(" + n + ",0)", x.gain(n, 0), -1);
      Edge.due("back(" + n + ")", x.back(n), -1);
    }
    Edge.says(1, "NOW (0 at first)");
    Edge.due("NOW", x.count(0), 0);
    Edge.says(1, "`NONE = -1`: None.");
    Edge.due("NONE", SafeVolumes.NONE, -1);
    Edge.says(1, "The constants: `NONE = -1`: None.");
    Edge.alike("two new objects", new SafeVolumes(), new SafeVolumes());
    SafeVolumes one = Edge.told(Edge::everything);
    Edge.alike("another object that was told everything", new SafeVolumes(), new SafeVolumes());
    Edge.due("pieces of that one", one.count(4), 3);
  }

  private static void theLastPromisedCall() {
    Edge.says(1, "An object is used for at most 512 calls after it has been made");
    SafeVolumes x = new SafeVolumes();
    x.piece(0, 0, 0, 0, 0, 0, 0, 0);
    for (int i = 1; i <= 400; i++) Edge.due("page, call " + (i + 1), x.page(0, i, 0), i);
    for (int i = 1; i <= 110; i++) Edge.due("truth, call " + (i + 401), x.truth(i, 1), i);
    Edge.due("wrong pages, call 512", x.of(0, 1), 110);
  }

  private static void clock() {
    Edge.says(2, "WEEKS 0 to 519; NOW (0 at first)");
    Edge.due("clock(0)", new SafeVolumes().clock(0), true);
    Edge.due("clock(519)", new SafeVolumes().clock(519), true);
    for (int n : new int[] {-1, 520, MOST, LEAST}) Edge.refused("clock(" + n + ")", Edge::everything, x -> x.clock(n) ? 1 : 0, 0);
    for (int n : new int[] {-1, 520, MOST, LEAST}) Edge.refused("clock(" + n + ")", Edge.NOTHING, x -> x.clock(n) ? 1 : 0, 0);
    Edge.says(2, "NOW is a WEEK, its own or a later one: true; false, and nothing happens, for others.");
    SafeVolumes x = new SafeVolumes();
    for (int n : new int[] {0, 1, 1, 518, 519, 519}) {
      Edge.due("clock(" + n + ")", x.clock(n), true);
      Edge.due("NOW", x.count(0), n);
    }
    for (int n : new int[] {518, 0}) {
      Edge.due("clock(" + n + ") in 519", x.clock(n), false);
      Edge.due("NOW", x.count(0), 519);
    }
    Edge.refused("clock(5) in 6", Edge::everything, y -> y.clock(5) ? 1 : 0, 0);
  }

  private static void stuffs() {
    Edge.says(3, "STUFFS 0 to 9: made since a YEAR (1800 to 1999)");
    Edge.range("stuff(n,1)", Edge.NOTHING, (x, n) -> x.stuff(n, 1), 1800, 0, 1999, 0, -1);
    Edge.says(3, "a TEST of it for coins (1 to 99)");
    Edge.range("stuff(1900,n)", Edge.NOTHING, (x, n) -> x.stuff(1900, n), 1, 0, 99, 0, -1);
    Edge.range("stuff(1900,n) behind others", Edge::everything, (x, n) -> x.stuff(1900, n), 1, 2, 99, 2, -1);
    Edge.says(3, "A STUFF: its number; NONE: there are 10, or something is not as told.");
    SafeVolumes x = new SafeVolumes();
    for (int i = 0; i < 10; i++) {
      Edge.due("a refused one takes no number", x.stuff(1900, 100), -1);
      Edge.due("stuff", x.stuff(1900, 1), i);
      Edge.due("STUFFS", x.count(1), i + 1);
    }
    Edge.refused("an eleventh", y -> { Edge.everything(y); Edge.stuffs(y, 8); }, y -> y.stuff(1900, 1));
    Edge.refused("an eleventh that is not as told", y -> Edge.stuffs(y, 10), y -> y.stuff(0, 0));
  }

  private static void truths() {
    Edge.says(4, "on a DAY (0 to 9999)");
    Edge.range("truth(n,0)", Edge.NOTHING, (x, n) -> x.truth(n, 0), FIRST, 1, LAST, 1, -1);
    Edge.range("truth(n,0) behind others", x -> { x.truth(1, 1); x.truth(9998, 1); }, (x, n) -> x.truth(n, 0), FIRST, 3, LAST, 3, -1);
    Edge.says(4, "at which PLACE (0 to 99) he was");
    Edge.range("truth(7,n)", Edge.NOTHING, (x, n) -> x.truth(7, n), 0, 1, 99, 1, -1);
    Edge.range("truth(7,n) behind others", Edge::everything, (x, n) -> x.truth(7, n), 0, 4, 99, 4, -1);
    Edge.says(4, "TRUTH of a DAY: how many DAYS it has; NONE: 200, it has that DAY, or something is not as told.");
    SafeVolumes x = new SafeVolumes();
    for (int i = 1; i <= 200; i++) Edge.due("truth", x.truth(LAST - i, 0), i);
    Edge.due("a 201st", x.truth(LAST, 0), -1);
    Edge.due("DAYS", x.count(2), 200);
    Edge.refused("a 201st", y -> { for (int i = 0; i < 200; i++) y.truth(50 * i, 3); Edge.pieces(y, 2); y.page(0, 5, 5); }, y -> y.truth(5, 6));
    Edge.says(4, "200 DAYS at most, each once");
    Edge.refused("the DAY again with another PLACE", Edge::everything, y -> y.truth(1, 0));
    Edge.refused("the DAY again with its PLACE", Edge::everything, y -> y.truth(1, 1));
    Edge.refused("the first DAY again", y -> { Edge.everything(y); y.truth(LAST, 4); }, y -> y.truth(0, 2));
    Edge.refused("the last DAY again", y -> { Edge.everything(y); y.truth(LAST, 4); }, y -> y.truth(LAST, 5));
  }

  private static void facts() {
    Edge.says(5, "SOURCES 0 to 5 tell FACTS");
    Edge.range("fact(n,0,0)", Edge.NOTHING, (x, n) -> x.fact(n, 0, 0), 0, 1, 5, 1, -1);
    Edge.says(5, "of a DAY a PLACE (of one SOURCE each DAY once)");
    Edge.range("fact(0,n,0)", Edge.NOTHING, (x, n) -> x.fact(0, n, 0), FIRST, 1, LAST, 1, -1);
    Edge.range("fact(5,n,0)", Edge.NOTHING, (x, n) -> x.fact(5, n, 0), FIRST, 1, LAST, 1, -1);
    for (int source = 0; source < 6; source++) {
      int one = source;
      Edge.Telling beside = x -> { for (int i = 0; i < 6; i++) { x.fact(i, 1, 1); x.fact(i, 9998, 1); } };
      Edge.range("fact(" + one + ",n,0) behind others", beside, (x, n) -> x.fact(one, n, 0), FIRST, 13, LAST, 13, -1);
    }
    Edge.range("fact(n,5,0) behind others", x -> { for (int i = 0; i < 6; i++) x.fact(i, 1, 1); }, (x, n) -> x.fact(n, 5, 0), 0, 7, 5, 7, -1);
    Edge.range("fact(5,7,n)", Edge.NOTHING, (x, n) -> x.fact(5, 7, n), 0, 1, 99, 1, -1);
    Edge.range("fact(5,7,n) behind others", Edge::everything, (x, n) -> x.fact(5, 7, n), 0, 4, 99, 4, -1);
    Edge.refused("the DAY again with another PLACE", Edge::everything, y -> y.fact(1, 2, 1));
    Edge.refused("the DAY again with its PLACE", Edge::everything, y -> y.fact(1, 2, 2));
    SafeVolumes x = new SafeVolumes();
    for (int source = 0; source < 6; source++) {
      Edge.due("the first DAY of each", x.fact(source, FIRST, source), 2 * source + 1);
      Edge.due("the last DAY of each", x.fact(source, LAST, source), 2 * source + 2);
      Edge.due("the last DAY again", x.fact(source, LAST, 9), -1);
      Edge.due("the first DAY again", x.fact(source, FIRST, 9), -1);
    }
    Edge.says(5, "A FACT of a SOURCE (0 to 5): how many there are; NONE: 300, it has that DAY, or something is not as told.");
    SafeVolumes y = new SafeVolumes();
    for (int i = 0; i < 300; i++) Edge.due("fact", y.fact(i % 6, i, i % 100), i + 1);
    for (int i = 0; i < 6; i++) Edge.due("a 301st of " + i, y.fact(i, 500, 1), -1);
    Edge.due("FACTS", y.count(3), 300);
    Edge.refused("a 301st", z -> { for (int i = 0; i < 300; i++) z.fact(i % 6, i, i % 100); Edge.pieces(z, 1); z.truth(301, 1); z.page(0, 301, 7); }, z -> z.fact(1, 301, 7));
  }

  private static void pieces() {
    Edge.says(6, "sort 0 a VOLUME, 1 a TRUE one, 2 another paper of the dealer");
    Edge.range("piece of sort n", Edge.NOTHING, (x, n) -> x.piece(n, 0, 0, 0, 0, 0, 0, 0), 0, 0, 2, 0, -1);
    SafeVolumes sorts = new SafeVolumes();
    for (int i = 0; i < 3; i++) sorts.piece(i, 0, 0, 0, 0, 0, 0, 0);
    Edge.reader(sorts, "yes volumes * 10 + own");
    Edge.due("one VOLUME; beside a TRUE one", sorts.chance(0, 0, 1), 10);
    Edge.due("one VOLUME; beside another paper", sorts.chance(0, 0, 2), 11);
    Edge.due("one VOLUME; beside it", sorts.chance(0, 1, 0), 11);
    Edge.says(6, "price (0 to 9999)");
    Edge.range("piece for n", Edge.NOTHING, (x, n) -> x.piece(0, 0, 0, 0, 0, 0, 0, n), 0, 0, 9999, 0, -1);
    Edge.range("piece for n behind others", Edge::everything, (x, n) -> x.piece(2, 0, 0, 0, 0, 0, 3, n), 0, 3, 9999, 3, -1);
    Edge.says(6, "it CAME in the WEEK that is NOW when it is told");
    SafeVolumes x = new SafeVolumes();
    Edge.volume(x);
    x.clock(519);
    Edge.volume(x);
    Edge.due("came in 0", x.of(0, 5), 0);
    Edge.due("came in 519", x.of(1, 5), 519);
    Edge.says(6, "PIECES 0 to 89: sort 0 a VOLUME");
    Edge.due("the last of 90", Edge.told(z -> Edge.pieces(z, 89)).piece(0, 0, 0, 0, 0, 0, 0, 0), 89);
    Edge.says(6, "A PIECE: its number; NONE: there are 90, or something is not as told (STUFFS there are, as bits).");
    SafeVolumes y = new SafeVolumes();
    for (int i = 0; i < 90; i++) {
      Edge.due("a refused one takes no number", y.piece(3, 0, 0, 0, 0, 0, 0, 0), -1);
      Edge.due("piece", y.piece(i % 3, 0, 0, 0, 0, 0, 0, 0), i);
    }
    for (int sort = 0; sort < 3; sort++) Edge.due("a 91st", y.piece(sort, 0, 0, 0, 0, 0, 0, 0), -1);
    Edge.due("PIECES", y.count(4), 90);
    Edge.due("no number 90", y.of(90, 0), -1);
    Edge.refused("a 91st", z -> { Edge.everything(z); Edge.pieces(z, 87); }, z -> z.piece(0, 1, 1, 1, 1, 1, 1, 1));
  }

  private static void hands() {
    Edge.says(6, "HAND: five numbers (0 to 99 each)");
    Edge.range("hand's first", Edge.NOTHING, (x, n) -> x.piece(0, n, 0, 0, 0, 0, 0, 0), 0, 0, 99, 0, -1);
    Edge.range("hand's second", Edge.NOTHING, (x, n) -> x.piece(0, 0, n, 0, 0, 0, 0, 0), 0, 0, 99, 0, -1);
    Edge.range("hand's third", Edge.NOTHING, (x, n) -> x.piece(0, 0, 0, n, 0, 0, 0, 0), 0, 0, 99, 0, -1);
    Edge.range("hand's fourth", Edge.NOTHING, (x, n) -> x.piece(0, 0, 0, 0, n, 0, 0, 0), 0, 0, 99, 0, -1);
    Edge.range("hand's fifth", Edge.NOTHING, (x, n) -> x.piece(0, 0, 0, 0, 0, n, 0, 0), 0, 0, 99, 0, -1);
    Edge.due("all at the greatest", new SafeVolumes().piece(0, 99, 99, 99, 99, 99, 0, 0), 0);
  }

  private static void stuffsOfPieces() {
    Edge.says(6, "(STUFFS there are, as bits)");
    for (int there = 0; there <= 10; there++) {
      int count = there, all = (1 << there) - 1;
      Edge.Telling ahead = x -> Edge.stuffs(x, count);
      Edge.range("stuffs n of " + there, ahead, (x, n) -> Edge.piece(x, 0, n), 0, 0, all, 0, -1);
      SafeVolumes x = Edge.told(ahead);
      Edge.piece(x, 0, all);
      Edge.due("all " + there + " are in it", x.of(0, 6), all);
      for (int bit = there; bit < 32; bit++) Edge.due("the bit " + bit + " of " + there, Edge.piece(x, 0, 1 << bit), -1);
    }
  }

  private static void pages() {
    Edge.says(7, "PAGES, 400 in all: of a PIECE, of a DAY (of one PIECE each DAY once), a PLACE.");
    Edge.range("page(n,0,0)", x -> Edge.pieces(x, 3), (x, n) -> x.page(n, 0, 0), 0, 1, 2, 1, -1);
    Edge.range("page(n,0,0) of 90", x -> Edge.pieces(x, 90), (x, n) -> x.page(n, 0, 0), 0, 1, 89, 1, -1);
    Edge.range("page(0,n,0)", x -> Edge.pieces(x, 3), (x, n) -> x.page(0, n, 0), FIRST, 1, LAST, 1, -1);
    Edge.range("page(2,n,0)", x -> Edge.pieces(x, 3), (x, n) -> x.page(2, n, 0), FIRST, 1, LAST, 1, -1);
    for (int piece = 0; piece < 3; piece++) {
      int one = piece;
      Edge.Telling beside = x -> { Edge.pieces(x, 3); for (int i = 0; i < 3; i++) { x.page(i, 1, 1); x.page(i, 9998, 1); } };
      Edge.range("page(" + one + ",n,0) behind others", beside, (x, n) -> x.page(one, n, 0), FIRST, 7, LAST, 7, -1);
    }
    Edge.range("page(1,5,n)", x -> Edge.pieces(x, 3), (x, n) -> x.page(1, 5, n), 0, 1, 99, 1, -1);
    Edge.range("page(1,5,n) behind others", Edge::everything, (x, n) -> x.page(1, 5, n), 0, 7, 99, 7, -1);
    Edge.refused("the DAY again with another PLACE", Edge::everything, x -> x.page(0, 1, 0));
    Edge.refused("the DAY again with its PLACE", Edge::everything, x -> x.page(0, 1, 1));
    Edge.says(7, "A PAGE: how many there are; NONE: 400, the PIECE has that DAY, or something is not as told.");
    SafeVolumes x = new SafeVolumes();
    Edge.pieces(x, 2);
    for (int i = 0; i < 400; i++) Edge.due("page", x.page(i % 2, i, 0), i + 1);
    Edge.due("a 401st", x.page(0, LAST, 0), -1);
    Edge.due("a 401st", x.page(1, LAST, 0), -1);
    Edge.due("PAGES", x.count(5), 400);
    Edge.due("of the one", x.of(0, 0), 200);
    Edge.refused("a 401st", EdgesOfThingsTest::fullOfPages, y -> y.page(0, 61, 0));
    Edge.refused("a 401st of a DAY that it has", EdgesOfThingsTest::fullOfPages, y -> y.page(0, 0, 0));
    Edge.refused("a 401st of a PIECE that has none", EdgesOfThingsTest::fullOfPages, y -> y.page(8, 0, 0));
  }
  private static void fullOfPages(SafeVolumes x) {
    Edge.pieces(x, 9);
    for (int d = 0; d < 60; d++) x.truth(d, 1);
    Edge.maker(x, "pace 1");
    for (int p = 0; p < 7; p++) x.make(0, p, 0, p < 6 ? 60 : 40, 0);
  }

  private static void pagesOfNeighbours() {
    Edge.says(7, "of a DAY (of one PIECE each DAY once)");
    SafeVolumes x = new SafeVolumes();
    Edge.pieces(x, 3);
    for (int p = 0; p < 3; p++) {
      Edge.due("the last DAY of each", x.page(p, LAST, p), 2 * p + 1);
      Edge.due("the first DAY of each", x.page(p, FIRST, p), 2 * p + 2);
    }
    for (int p = 0; p < 3; p++) {
      Edge.due("the last DAY again", x.page(p, LAST, 9), -1);
      Edge.due("the first DAY again", x.page(p, FIRST, 9), -1);
      Edge.due("its pages", x.of(p, 0), 2);
    }
  }

  private static void questions() {
    Edge.says(8, "Of a PIECE what 0: PAGES, 1: WRONG ones, 2: SHARED ones (with some SOURCE), 3: NOWHERE ones, 4: AGE, 5: the WEEK in which it CAME, 6: STUFFS in it (bits), 7: those TOO YOUNG (bits). NONE without these.");
    Edge.range("of(0,n)", Edge::everything, (x, n) -> x.of(0, n), 0, 3, 7, 2, -1);
    Edge.range("of(n,5)", Edge::everything, (x, n) -> x.of(n, 5), 0, 3, 2, 4, -1);
    SafeVolumes x = Edge.told(y -> Edge.pieces(y, 90));
    for (int what = 0; what <= 7; what++) {
      Edge.due("of(89," + what + ")", x.of(89, what), what == 4 ? 1900 : 0);
      Edge.due("of(90," + what + ")", x.of(90, what), -1);
      Edge.due("of(-1," + what + ")", x.of(-1, what), -1);
    }
  }

  private static int ageWith(int... days) {
    SafeVolumes x = new SafeVolumes();
    Edge.pieces(x, 3);
    x.page(0, 5000, 0);
    for (int d : days) x.page(1, d, 0);
    x.page(2, 6000, 0);
    return x.of(1, 4);
  }
  private static void ages() {
    Edge.says(8, "AGE of a PIECE: 1900 and the greatest DAY of its PAGES by 365, downwards; 1900 without PAGES.");
    Edge.due("without PAGES", ageWith(), 1900);
    Edge.due("DAY 0", ageWith(0), 1900);
    Edge.due("DAY 364", ageWith(364), 1900);
    Edge.due("DAY 365", ageWith(365), 1901);
    Edge.due("DAY 729", ageWith(729), 1901);
    Edge.due("DAY 730", ageWith(730), 1902);
    Edge.due("DAY 9854", ageWith(9854), 1926);
    Edge.due("DAY 9855", ageWith(9855), 1927);
    Edge.due("DAY 9999", ageWith(9999), 1927);
    Edge.due("the greatest first", ageWith(730, 0, 364), 1902);
    Edge.due("the greatest last", ageWith(0, 364, 730), 1902);
    Edge.due("the greatest amid them", ageWith(0, 730, 364), 1902);
  }

  /** A piece with one page of a day, 50 and the place 5. */
  private static SafeVolumes onePage() {
    SafeVolumes x = new SafeVolumes();
    Edge.pieces(x, 2);
    x.page(0, 50, 5);
    return x;
  }
  private static void wrongPages() {
    Edge.says(8, "A PAGE is WRONG if TRUTH has another PLACE for its DAY");
    SafeVolumes x = onePage();
    Edge.due("TRUTH has not the DAY", x.of(0, 1), 0);
    x.truth(49, 6);
    x.truth(51, 6);
    Edge.due("TRUTH has the DAYS beside it", x.of(0, 1), 0);
    x.truth(50, 5);
    Edge.due("TRUTH has its PLACE", x.of(0, 1), 0);
    for (int place : new int[] {4, 6, 0, 99}) {
      SafeVolumes y = onePage();
      y.truth(50, place);
      Edge.due("TRUTH has " + place, y.of(0, 1), 1);
      Edge.due("a piece without PAGES", y.of(1, 1), 0);
    }
    SafeVolumes z = new SafeVolumes();
    Edge.pieces(z, 1);
    z.page(0, FIRST, 0);
    z.page(0, LAST, 99);
    z.truth(FIRST, 99);
    z.truth(LAST, 0);
    Edge.due("the first and the last DAY", z.of(0, 1), 2);
  }

  private static void sharedPages() {
    Edge.says(8, "SHARED with a SOURCE if it is WRONG and that SOURCE has its PLACE for its DAY");
    SafeVolumes x = onePage();
    x.fact(2, 50, 5);
    Edge.due("not WRONG: TRUTH has not the DAY", x.of(0, 2), 0);
    Edge.due("not WRONG: TRUTH has not the DAY", x.shared(0, 2), 0);
    x.truth(50, 6);
    Edge.due("WRONG, and a SOURCE has it", x.of(0, 2), 1);
    x.fact(4, 50, 5);
    Edge.due("of two SOURCES it is one PAGE", x.of(0, 2), 1);
    SafeVolumes y = onePage();
    y.fact(2, 50, 5);
    y.truth(50, 5);
    Edge.due("not WRONG: TRUTH has its PLACE", y.of(0, 2), 0);
    SafeVolumes z = onePage();
    z.truth(50, 6);
    Edge.due("no SOURCE has the DAY", z.of(0, 2), 0);
    z.fact(0, 50, 6);
    z.fact(1, 50, 4);
    z.fact(2, 49, 5);
    z.fact(3, 51, 5);
    Edge.due("the SOURCES have other PLACES or DAYS", z.of(0, 2), 0);
  }

  private static void nowherePages() {
    Edge.says(8, "NOWHERE if neither TRUTH nor any SOURCE has its DAY");
    SafeVolumes x = onePage();
    Edge.due("nobody has it", x.of(0, 3), 1);
    Edge.due("a piece without PAGES", x.of(1, 3), 0);
    x.truth(49, 5);
    x.truth(51, 5);
    for (int source = 0; source < 6; source++) { x.fact(source, 49, 5); x.fact(source, 51, 5); }
    Edge.due("all have the DAYS beside it", x.of(0, 3), 1);
    x.truth(50, 9);
    Edge.due("TRUTH has it, with another PLACE", x.of(0, 3), 0);
    for (int source = 0; source < 6; source++) {
      SafeVolumes y = onePage();
      y.fact(source, 50, 9);
      Edge.due("SOURCE " + source + " alone has it, with another PLACE", y.of(0, 3), 0);
    }
  }

  private static void tooYoung() {
    Edge.says(8, "A STUFF is TOO YOUNG for a PIECE in which it is, if its YEAR is above the AGE.");
    SafeVolumes x = new SafeVolumes();
    int[] years = {1899, 1900, 1901, 1800, 1999, 1903, 1904, 1905, 1900, 1901};
    for (int year : years) x.stuff(year, 1);
    Edge.piece(x, 0, 1023);
    Edge.piece(x, 0, 0);
    Edge.piece(x, 0, 1 << 9);
    Edge.due("above 1900", x.of(0, 7), 0b1011110100);
    Edge.due("none in it", x.of(1, 7), 0);
    Edge.due("the last alone", x.of(2, 7), 1 << 9);
    x.page(0, 4 * 365 - 1, 0);
    Edge.due("above 1903", x.of(0, 7), 0b11010000);
    x.page(0, 4 * 365, 0);
    Edge.due("above 1904", x.of(0, 7), 0b10010000);
    x.page(0, LAST, 0);
    Edge.due("above 1927", x.of(0, 7), 0b10000);
    x.page(2, 365, 0);
    Edge.due("1901 is not above 1901", x.of(2, 7), 0);
  }

  private static void sharedWith() {
    Edge.says(9, "How many PAGES of a PIECE are SHARED with a SOURCE; NONE without these.");
    Edge.range("shared(0,n)", Edge::everything, (x, n) -> x.shared(0, n), 0, 1, 5, 0, -1);
    Edge.range("shared(n,0)", Edge::everything, (x, n) -> x.shared(n, 0), 0, 1, 2, 1, -1);
    for (int source = 0; source < 6; source++) {
      SafeVolumes x = onePage();
      x.truth(50, 6);
      x.fact(source, 50, 5);
      for (int i = 0; i < 6; i++) Edge.due("shared(0," + i + ")", x.shared(0, i), i == source ? 1 : 0);
      Edge.due("a piece without PAGES", x.shared(1, source), 0);
    }
  }
}
