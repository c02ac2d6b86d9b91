import java.math.BigInteger;

/** The edges of promises 22 to 29: whose a piece may be, how fast, what is made by draws, and rows of readers. */
public final class EdgesOfMakersTest {
  private static final int LAST = 9999, MOST = Integer.MAX_VALUE;

  public static void main(String[] args) {
    likely();
    kin();
    could();
    couldByPages();
    outrun();
    outrunByWeeks();
    outrunByVolumes();
    growsOfFew();
    growsOfTwo();
    growsOfMany();
    makeTakes();
    makeByDays();
    makeBySeeds();
    makeBySlips();
    makeWithoutPlaces();
    makeUpToFourHundred();
    makeItsStuffs();
    soonestTakes();
    soonestOrders();
    longestWaits();
    rowsByPieces();
    surestTakes();
    surestSets();
    Edge.finish(22, 29);
  }

  // ---- LIKELY, KIN, COULD

  /** A piece with so many pages of each source's own; all of them are wrong. */
  private static SafeVolumes sharing(int... pagesOf) {
    SafeVolumes x = new SafeVolumes();
    Edge.pieces(x, 2);
    int day = 0;
    for (int source = 0; source < pagesOf.length; source++) {
      for (int i = 0; i < pagesOf[source]; i++) { x.truth(day, 50); x.page(0, day, source); x.fact(source, day, source); day++; }
    }
    return x;
  }
  private static void likely() {
    Edge.says(22, "LIKELY; -2: no PAGE is SHARED; NONE without it.");
    Edge.range("likely(n)", Edge::everything, (x, n) -> x.likely(n), 0, 0, 2, 0, -1);
    Edge.due("no PAGE", sharing(1).likely(1), -2);
    Edge.due("no PAGE is SHARED", sharing(0, 0, 0, 0, 0, 0).likely(0), -2);
    SafeVolumes x = sharing(0);
    x.page(0, 5, 5);
    x.fact(3, 5, 5);
    Edge.due("it is not WRONG", x.likely(0), -2);
    x.truth(5, 6);
    Edge.due("it is", x.likely(0), 3);
    Edge.says(22, "LIKELY: the SOURCE with which most PAGES of a PIECE are SHARED, of several the least.");
    Edge.due("the first", sharing(1, 0, 0, 0, 0, 0).likely(0), 0);
    Edge.due("the last", sharing(0, 0, 0, 0, 0, 1).likely(0), 5);
    Edge.due("of two", sharing(0, 2, 0, 0, 2, 1).likely(0), 1);
    Edge.due("of all", sharing(3, 3, 3, 3, 3, 3).likely(0), 0);
    Edge.due("one more", sharing(2, 2, 2, 2, 2, 3).likely(0), 5);
    Edge.due("rising", sharing(0, 1, 2, 3, 4, 4).likely(0), 4);
    Edge.due("falling", sharing(5, 4, 3, 2, 1, 0).likely(0), 0);
  }

  private static void kin() {
    Edge.says(23, "KIN; NONE without these (unlike).");
    Edge.range("kin(n,0)", x -> { Edge.everything(x); Edge.piece(x, 0, 0); }, (x, n) -> x.kin(n, 0), 1, 0, 3, 0, -1);
    Edge.range("kin(0,n)", x -> { Edge.everything(x); Edge.piece(x, 0, 0); }, (x, n) -> x.kin(0, n), 1, 0, 3, 0, -1);
    for (int p = 0; p < 4; p++) { int one = p; Edge.refused("a PIECE with itself", Edge::everything, x -> x.kin(one, one)); }
    Edge.says(23, "KIN of two PIECES: how many SOURCES there are with which each of both has a PAGE SHARED.");
    for (int bits = 0; bits < 64; bits += 7) for (int other = 0; other < 64; other += 9) {
      SafeVolumes x = new SafeVolumes();
      Edge.pieces(x, 2);
      for (int source = 0; source < 6; source++) {
        // the two of them have other DAYS: the SOURCE is the same, not the PAGE
        for (int p = 0; p < 2; p++) {
          int day = 20 * source + 10 * p;
          for (int d = day; d < day + 2; d++) { x.truth(d, 1); x.fact(source, d, 2); x.page(p, d, ((p == 0 ? bits : other) >> source & 1) == 1 ? 2 : 3); }
        }
      }
      Edge.due("kin of " + bits + " and " + other, x.kin(0, 1), Integer.bitCount(bits & other));
      Edge.due("the other way", x.kin(1, 0), Integer.bitCount(bits & other));
    }
    SafeVolumes x = new SafeVolumes();
    Edge.pieces(x, 2);
    for (int source = 0; source < 6; source++) { x.fact(source, source, 7); x.truth(source, 8); x.page(0, source, 7); x.page(1, source, 7); }
    Edge.due("all six", x.kin(0, 1), 6);
  }

  private static void could() {
    Edge.says(24, "COULD, as bits; NONE without it.");
    Edge.range("could(n)", Edge::everything, (x, n) -> x.could(n), 0, 0, 2, 0, -1);
    SafeVolumes none = new SafeVolumes();
    Edge.volume(none);
    Edge.due("without MAKERS", none.could(0), 0);
    Edge.says(24, "all its STUFFS are among his of CLAUSES");
    SafeVolumes x = new SafeVolumes();
    Edge.stuffs(x, 10);
    String[] of = {"pace 1", "of 0", "of 9", "of 9; of 0", "of 0;of 1;of 2;of 3;of 4;of 5;of 6;of 7;of 8;of 9", "of 0;of 0;of 1"};
    for (String text : of) Edge.maker(x, text);
    int[] in = {0, 1, 1 << 9, 1 | 1 << 9, 1023, 3, 2, 1 << 5};
    int[] due = {0b111111, 0b111010, 0b011100, 0b011000, 0b010000, 0b110000, 0b110000, 0b010000};
    for (int i = 0; i < in.length; i++) Edge.due("the STUFFS " + in[i], x.could(Edge.piece(x, i % 3, in[i])), due[i]);
  }

  private static void couldByPages() {
    Edge.says(24, "each of its PAGES has the PLACE that TRUTH has for its DAY, or one that a SOURCE of his from CLAUSES has for it");
    SafeVolumes x = new SafeVolumes();
    String[] from = {"pace 1", "from 0", "from 5", "from 5; from 0", "slips 0; from 1", "from 0;from 1;from 2;from 3;from 4;from 5"};
    for (String text : from) Edge.maker(x, text);
    Edge.pieces(x, 7);
    x.truth(0, 1);
    x.truth(LAST, 1);
    x.fact(0, 0, 2);
    x.fact(5, LAST, 2);
    x.fact(0, LAST, 1);
    Edge.due("no PAGE", x.could(0), 0b111111);
    x.page(1, 0, 1);
    x.page(1, LAST, 1);
    Edge.due("TRUTH's", x.could(1), 0b111111);
    x.page(2, 0, 2);
    Edge.due("the SOURCE 0", x.could(2), 0b101010);
    x.page(3, LAST, 2);
    Edge.due("the SOURCE 5", x.could(3), 0b101100);
    x.page(4, 0, 2);
    x.page(4, LAST, 2);
    Edge.due("of both one", x.could(4), 0b101000);
    x.page(5, 0, 3);
    Edge.due("nobody's", x.could(5), 0);
    x.page(6, 7, 0);
    Edge.due("a DAY that nobody has", x.could(6), 0);
    x.fact(5, 7, 0);
    Edge.due("a DAY that a SOURCE alone has", x.could(6), 0b101100);
  }

  // ---- OUTRUN, GROWS

  private static void outrun() {
    Edge.says(25, "OUTRUN from a WEEK (up to NOW) on; -2: never; NONE without these.");
    Edge.range("outrun(0,n)", Edge::everything, (x, n) -> x.outrun(0, n), 0, -2, 6, -2, -1);
    Edge.range("outrun(0,n) in 0", x -> Edge.maker(x, "pace 1"), (x, n) -> x.outrun(0, n), 0, -2, 0, -2, -1);
    Edge.range("outrun(0,n) in 519", x -> { Edge.maker(x, "pace 1"); x.clock(519); }, (x, n) -> x.outrun(0, n), 0, -2, 519, -2, -1);
    Edge.range("outrun(n,0)", x -> { for (int i = 0; i < 6; i++) Edge.maker(x, "pace 1"); }, (x, n) -> x.outrun(n, 0), 0, -2, 5, -2, -1);
    Edge.refused("outrun(1,0)", Edge::everything, x -> x.outrun(1, 0));
  }

  /** Volumes that came in these weeks, with so many pages; now is the last week told. */
  private static SafeVolumes came(String maker, int now, int... weeksAndPages) {
    SafeVolumes x = new SafeVolumes();
    Edge.maker(x, maker);
    for (int i = 0; i < weeksAndPages.length; i += 2) {
      x.clock(weeksAndPages[i]);
      int p = Edge.volume(x);
      for (int d = 0; d < weeksAndPages[i + 1]; d++) x.page(p, d, 0);
    }
    x.clock(now);
    return x;
  }
  private static void outrunByWeeks() {
    Edge.says(25, "are more than a MAKER's pace times these WEEKS (both counted)");
    Edge.due("1 in a WEEK", came("pace 1", 0, 0, 1).outrun(0, 0), -2);
    Edge.due("2 in a WEEK", came("pace 1", 0, 0, 2).outrun(0, 0), 0);
    Edge.due("without pace it is 1", came("from 1", 0, 0, 2).outrun(0, 0), 0);
    Edge.due("without pace it is 1", came("from 1", 0, 0, 1).outrun(0, 0), -2);
    Edge.due("99 in a WEEK", came("pace 99", 0, 0, 99).outrun(0, 0), -2);
    Edge.due("100 in a WEEK", came("pace 99", 0, 0, 100).outrun(0, 0), 0);
    Edge.due("6 in 3 WEEKS", came("pace 2", 9, 2, 6).outrun(0, 0), -2);
    Edge.due("7 in 3 WEEKS", came("pace 2", 9, 2, 7).outrun(0, 0), 2);
    Edge.due("7 in 4 WEEKS", came("pace 2", 9, 3, 7).outrun(0, 0), -2);
    Edge.says(25, "from a WEEK on, the first WEEK (up to NOW) behind which the PAGES of VOLUMES that CAME from the one to it (as many as they have now)");
    SafeVolumes x = came("pace 2", 30, 5, 3, 6, 4, 9, 9);
    Edge.due("from 5: 3 in 1", x.outrun(0, 5), 5);
    Edge.due("from 4: 3 in 2, 7 in 3", x.outrun(0, 4), 6);
    Edge.due("from 3: 7 in 4, 16 in 7", x.outrun(0, 3), 9);
    Edge.due("from 6: 4 in 1", x.outrun(0, 6), 6);
    Edge.due("from 7: 9 in 3", x.outrun(0, 7), 9);
    Edge.due("from 9: 9 in 1", x.outrun(0, 9), 9);
    Edge.due("from 10: none", x.outrun(0, 10), -2);
    Edge.due("from 30: none", x.outrun(0, 30), -2);
    Edge.due("from 2: 16 in 8", x.outrun(0, 2), -2);
    x.page(0, 100, 0);
    Edge.due("from 2, one PAGE more now", x.outrun(0, 2), 9);
    Edge.due("in the last WEEK", came("pace 1", 519, 519, 5).outrun(0, 519), 519);
    Edge.due("in the last WEEK, from 516", came("pace 1", 519, 519, 5).outrun(0, 516), 519);
    Edge.due("in the last WEEK, from 515", came("pace 1", 519, 519, 5).outrun(0, 515), -2);
    Edge.due("from 0 to NOW", came("pace 99", 519, 0, 100).outrun(0, 1), -2);
  }

  private static void outrunByVolumes() {
    Edge.says(25, "VOLUMES that CAME from the one to it");
    for (int sort = 0; sort < 3; sort++) {
      SafeVolumes x = new SafeVolumes();
      Edge.maker(x, "pace 1");
      x.clock(3);
      Edge.piece(x, sort, 0);
      for (int d = 0; d < 9; d++) x.page(0, d, 0);
      Edge.due("of sort " + sort, x.outrun(0, 0), sort == 0 ? 3 : -2);
    }
    SafeVolumes y = new SafeVolumes();
    for (int i = 1; i <= 6; i++) Edge.maker(y, "pace " + i);
    Edge.volume(y);
    for (int d = 0; d < 5; d++) y.page(0, d, 0);
    for (int i = 0; i < 6; i++) Edge.due("the MAKER " + i, y.outrun(i, 0), i < 4 ? 0 : -2);
  }

  /** Volumes with these weeks and prices. */
  private static int growthOf(int... weeksAndPrices) {
    SafeVolumes x = new SafeVolumes();
    for (int i = 0; i < weeksAndPrices.length; i += 2) {
      x.clock(weeksAndPrices[i]);
      x.piece(0, 0, 0, 0, 0, 0, 0, weeksAndPrices[i + 1]);
    }
    return x.grows();
  }
  private static void growsOfFew() {
    Edge.says(26, "GAP of each but the first: WEEKS since the one ahead of it CAME");
    Edge.due("none", growthOf(), 0);
    Edge.due("one", growthOf(5, 5), 0);
    Edge.due("two", growthOf(5, 5, 9, 9), 0);
  }
  private static void growsOfTwo() {
    Edge.says(26, "Of each two of these: 1 more if for the one more was PAID and its GAP is shorter, 1 less if more was PAID and its GAP is longer.");
    Edge.due("more PAID, shorter", growthOf(0, 10, 6, 20, 10, 0), 1);
    Edge.due("more PAID, by one and one", growthOf(0, 10, 5, 11, 9, 0), 1);
    Edge.due("more PAID, longer", growthOf(0, 10, 4, 20, 10, 0), -1);
    Edge.due("more PAID, longer by one", growthOf(0, 10, 4, 11, 9, 0), -1);
    Edge.due("less PAID, longer", growthOf(0, 20, 4, 10, 10, 0), 1);
    Edge.due("less PAID, shorter", growthOf(0, 20, 6, 10, 10, 0), -1);
    Edge.due("as much PAID, shorter", growthOf(0, 10, 6, 10, 10, 0), 0);
    Edge.due("as much PAID, longer", growthOf(0, 10, 4, 10, 10, 0), 0);
    Edge.due("more PAID, as long", growthOf(0, 10, 5, 20, 10, 0), 0);
    Edge.due("less PAID, as long", growthOf(0, 20, 5, 10, 10, 0), 0);
    Edge.due("the farthest", growthOf(0, 0, 519, 9999, 519, 0), 1);
    Edge.due("the farthest", growthOf(0, 9999, 519, 0, 519, 0), -1);
    Edge.says(26, "PAID: the price of that one ahead");
    Edge.due("the last price is not PAID yet", growthOf(0, 10, 6, 20, 10, 9999), 1);
  }
  private static void growsOfMany() {
    Edge.says(26, "GROWS: of VOLUMES by their numbers");
    SafeVolumes x = new SafeVolumes();
    x.piece(0, 0, 0, 0, 0, 0, 0, 10);
    x.clock(2);
    x.piece(1, 0, 0, 0, 0, 0, 0, 99);
    x.clock(6);
    x.piece(0, 0, 0, 0, 0, 0, 0, 20);
    x.piece(2, 0, 0, 0, 0, 0, 0, 0);
    x.clock(10);
    x.piece(0, 0, 0, 0, 0, 0, 0, 0);
    Edge.due("others do not count", x.grows(), 1);
    SafeVolumes y = new SafeVolumes();
    int week = 0, gap = 31;
    for (int i = 0; i < 31; i++) { y.clock(week); y.piece(0, 0, 0, 0, 0, 0, 0, i); week += gap--; }
    Edge.due("30 of them, each two more", y.grows(), 30 * 29 / 2);
    SafeVolumes z = new SafeVolumes();
    week = 0;
    for (int i = 0; i < 32; i++) { z.clock(week); z.piece(0, 0, 0, 0, 0, 0, 0, i); week += i + 1; }
    Edge.due("31 of them, each two less", z.grows(), -31 * 30 / 2);
    SafeVolumes full = Edge.told(v -> Edge.pieces(v, 90));
    Edge.due("90 alike", full.grows(), 0);
    SafeVolumes two = new SafeVolumes();
    for (int i = 0; i < 90; i++) { if (i == 45) two.clock(1); two.piece(0, 0, 0, 0, 0, 0, 0, i); }
    // 89 of these: the GAP of one is 1, of all others 0; for 44 of them less was PAID
    Edge.due("one GAP among 89", two.grows(), -44 + 44);
    Edge.due("one GAP at the end", lastGap(), -88);
  }
  private static int lastGap() {
    SafeVolumes x = new SafeVolumes();
    for (int i = 0; i < 90; i++) { if (i == 89) x.clock(1); x.piece(0, 0, 0, 0, 0, 0, 0, i); }
    return x.grows();
  }

  // ---- MADE

  /** A maker who writes what truth has, and 60 days of truth from 0 and from 9940 on. */
  private static void honest(SafeVolumes x) {
    Edge.everything(x);
    Edge.maker(x, "slips 0");
    for (int d = 0; d < 60; d++) { x.truth(d, 1); x.truth(9940 + d, 1); }
    Edge.volume(x);
  }
  private static void makeTakes() {
    Edge.says(27, "MADE: how many PAGES were added; NONE, and nothing happens: there would be more than 400 (by those that are added), a STUFF of his is not there, or something is not as told.");
    Edge.range("make(n,3,9940,1,1)", x -> { honest(x); for (int i = 2; i < 6; i++) Edge.maker(x, "slips 0"); }, (x, n) -> x.make(n, 3, 9940, 1, 1), 0, 1, 5, 1, -1);
    Edge.refused("a MAKER that is not", EdgesOfMakersTest::honest, x -> x.make(2, 3, 9940, 1, 0));
    Edge.range("make(1,n,9940,1,0)", EdgesOfMakersTest::honest, (x, n) -> x.make(1, n, 9940, 1, 0), 0, 1, 3, 1, -1);
    Edge.says(27, "n PAGES at most (1 to 60)");
    Edge.range("make(1,3,0,n,0)", EdgesOfMakersTest::honest, (x, n) -> x.make(1, 3, 0, n, 0), 1, 1, 60, 60, -1);
    Edge.says(27, "from a DAY on");
    Edge.range("make(1,3,n,1,0)", EdgesOfMakersTest::honest, (x, n) -> x.make(1, 3, n, 1, 0), 0, 1, LAST, 1, -1);
    Edge.says(27, "by a seed (0 to 2147483647): each DAY");
    Edge.range("make(1,3,0,5,n)", EdgesOfMakersTest::honest, (x, n) -> x.make(1, 3, 0, 5, n), 0, 5, MOST, 5, -1);
    for (int seed : new int[] {-1, -2, Integer.MIN_VALUE}) Edge.refused("a seed below 0", EdgesOfMakersTest::honest, x -> x.make(1, 3, 0, 5, seed));
  }

  private static void makeByDays() {
    Edge.says(27, "DAY by DAY (of n DAYS)");
    SafeVolumes x = Edge.told(EdgesOfMakersTest::honest);
    Edge.due("sixty DAYS, three of which it has", x.make(1, 0, 0, 60, 0), 57);
    Edge.due("its pages", x.of(0, 0), 60);
    Edge.due("all are there", x.make(1, 0, 0, 60, 0), 0);
    Edge.due("a DAY beyond the sixty is not made", x.make(1, 0, 59, 2, 0), 0);
    Edge.due("PLACES that it had stay", x.of(0, 1), 2);
    Edge.says(27, "or beyond 9999");
    Edge.due("9940 to 9999", x.make(1, 3, 9940, 60, 0), 60);
    Edge.due("its AGE", x.of(3, 4), 1927);
    Edge.due("9999 alone", x.make(1, 1, LAST, 60, 0), 1);
    Edge.due("nothing of the next PIECE", x.of(2, 0), 3);
    SafeVolumes y = new SafeVolumes();
    Edge.pieces(y, 3);
    Edge.maker(y, "from 0;from 4");
    for (int d = 0; d < 60; d++) { y.fact(1, d, 7); y.fact(5, d, 8); }
    y.page(1, 0, 7);
    Edge.due("DAYS beyond 9999 are not the next SOURCE's, nor the next PIECE's", y.make(0, 0, 9970, 60, 3), 0);
    Edge.due("the next PIECE", y.of(1, 0), 1);
    Edge.due("PAGES", y.count(5), 1);
  }

  /** What a seed makes, as the document tells it: for each day whether it is a slip, and the second draw. */
  private static int[][] draws(int seed, int n, int slips) {
    BigInteger x = BigInteger.valueOf(seed), m = BigInteger.valueOf(1103515245), c = BigInteger.valueOf(12345), r = BigInteger.valueOf(2147483648L), by = BigInteger.valueOf(65536);
    int[][] all = new int[n][2];
    for (int i = 0; i < n; i++) {
      x = x.multiply(m).add(c).mod(r);
      all[i][0] = x.divide(by).intValue() % 1000 < slips ? 1 : 0;
      x = x.multiply(m).add(c).mod(r);
      all[i][1] = x.divide(by).intValue();
    }
    return all;
  }
  private static void makeBySeeds() {
    Edge.says(27, "each DAY x becomes x * 1103515245 + 12345, of 2147483648 the rest, twice; it is a slip if (the first x by 65536) mod 1000 is below slips; a slip's PLACE: that of his SOURCE number (the second x by 65536) mod how many from CLAUSES he has (in the order of the text)");
    String[] texts = {"from 4", "from 4;from 1", "from 1;from 4;from 1", "from 5;from 4;from 3;from 2;from 1;from 0", "from 0;from 0;from 0;from 0;from 0;from 0;from 0;from 0;from 0;from 0;from 3"};
    int[][] from = {{4}, {4, 1}, {1, 4, 1}, {5, 4, 3, 2, 1, 0}, {0, 0, 0, 0, 0, 0, 0, 0, 0, 0, 3}};
    for (int seed : new int[] {0, 1, MOST, MOST - 1, 1 << 30, 20261119}) for (int t = 0; t < texts.length; t++) for (int slips : new int[] {0, 1, 500, 1000}) {
      SafeVolumes x = new SafeVolumes();
      Edge.pieces(x, 1);
      Edge.maker(x, texts[t] + ";slips " + slips);
      for (int d = 0; d < 30; d++) { x.truth(d, 50); for (int s = 0; s < 6; s++) x.fact(s, d, s); }
      // the DAY 3 is there already: it draws all the same
      x.page(0, 3, 60);
      Edge.due("make by " + seed, x.make(0, 0, 0, 30, seed), 29);
      int[][] all = draws(seed, 30, slips);
      int[] due = new int[6];
      int wrong = 1;
      for (int d = 0; d < 30; d++) if (d != 3 && all[d][0] == 1) { due[from[t][all[d][1] % from[t].length]]++; wrong++; }
      Edge.due("slips by " + seed + " of " + texts[t], x.of(0, 1), wrong);
      for (int s = 0; s < 6; s++) Edge.due("slips of SOURCE " + s + " by " + seed + " of " + texts[t], x.shared(0, s), due[s]);
    }
  }

  private static void makeBySlips() {
    Edge.says(27, "mod 1000 is below slips");
    for (int seed : new int[] {0, 1, 2, 777, MOST}) {
      int draw = 0;
      while (draws(seed, 1, draw)[0][0] == 0) draw++;
      for (int slips : new int[] {draw - 1, draw}) {
        SafeVolumes x = new SafeVolumes();
        Edge.pieces(x, 1);
        Edge.maker(x, "from 2;slips " + slips);
        x.truth(0, 1);
        x.fact(2, 0, 2);
        x.make(0, 0, 0, 1, seed);
        Edge.due("slips " + slips + " by " + seed, x.shared(0, 2), slips == draw ? 1 : 0);
      }
    }
    Edge.says(27, "takes, coins, pace, slips once at most each (1, 1, 1, 0 without)");
    SafeVolumes x = new SafeVolumes();
    Edge.pieces(x, 1);
    Edge.maker(x, "from 2");
    for (int d = 0; d < 60; d++) { x.truth(d, 1); x.fact(2, d, 2); }
    Edge.due("make", x.make(0, 0, 0, 60, 5), 60);
    Edge.due("none is a slip", x.of(0, 1), 0);
  }

  private static void makeWithoutPlaces() {
    Edge.says(27, "else TRUTH's, or, if it has not that DAY, that of the first of his SOURCES that has it.");
    SafeVolumes x = new SafeVolumes();
    Edge.pieces(x, 3);
    Edge.maker(x, "from 5;from 0;from 3");
    x.fact(0, 1, 10);
    x.fact(3, 1, 13);
    x.fact(5, 2, 15);
    x.fact(0, 2, 10);
    x.fact(3, 3, 13);
    x.fact(1, 4, 11);
    x.truth(5, 20);
    x.fact(5, 5, 15);
    Edge.due("the DAYS 1, 2, 3, 5", x.make(0, 0, 0, 9, 1), 4);
    for (int d = 1; d < 4; d++) x.truth(d, 99);
    Edge.due("of DAY 1 the second SOURCE's, of 2 the first's, of 3 the third's, of 5 TRUTH's", x.of(0, 1), 3);
    Edge.due("SOURCE 0", x.shared(0, 0), 1);
    Edge.due("SOURCE 5", x.shared(0, 5), 1);
    Edge.due("SOURCE 3", x.shared(0, 3), 1);
    Edge.says(27, "No PAGE without a PLACE (a slip whose SOURCE has not the DAY; no SOURCES; nobody has it), for a DAY that the PIECE has, or beyond 9999.");
    Edge.maker(x, "from 2;slips 1000");
    Edge.maker(x, "slips 1000");
    Edge.maker(x, "slips 0");
    Edge.due("a slip whose SOURCE has not the DAY", x.make(1, 1, 0, 60, 1), 0);
    Edge.due("a slip without SOURCES", x.make(2, 1, 0, 60, 1), 0);
    Edge.due("no SOURCES: TRUTH's", x.make(3, 1, 0, 60, 1), 4);
    Edge.due("nobody has it", x.make(0, 2, 100, 60, 1), 0);
    Edge.due("a SOURCE that is not his has it", x.make(0, 2, 4, 1, 1), 0);
    Edge.due("a DAY that the PIECE has", x.make(3, 1, 5, 1, 1), 0);
  }

  /** 340 pages in the pieces 0 to 5; the piece 6 has the days 0 to 9, with another place; the pieces 7 and 8 have none: 350 in all. */
  private static void nearlyFull(SafeVolumes x) {
    Edge.stuffs(x, 1);
    Edge.pieces(x, 9);
    for (int d = 0; d < 60; d++) x.truth(d, 1);
    Edge.maker(x, "pace 1");
    Edge.maker(x, "of 0");
    for (int p = 0; p < 6; p++) x.make(0, p, 0, p < 5 ? 60 : 40, 0);
    for (int d = 0; d < 10; d++) x.page(6, d, 5);
  }
  private static void makeUpToFourHundred() {
    Edge.says(27, "there would be more than 400 (by those that are added)");
    Edge.due("350", Edge.told(EdgesOfMakersTest::nearlyFull).count(5), 350);
    SafeVolumes x = Edge.told(EdgesOfMakersTest::nearlyFull);
    Edge.due("50 of 60 DAYS: 400", x.make(1, 6, 0, 60, 0), 50);
    Edge.due("PAGES", x.count(5), 400);
    Edge.due("none more", x.make(1, 6, 0, 60, 0), 0);
    Edge.due("none more, of DAYS that nobody has", x.make(1, 7, 600, 60, 0), 0);
    Edge.due("one more", x.make(1, 7, 0, 1, 0), -1);
    Edge.due("PAGES", x.count(5), 400);
    Edge.due("just 50", Edge.told(EdgesOfMakersTest::nearlyFull).make(1, 7, 0, 50, 0), 50);
    Edge.due("just 50 of DAYS that TRUTH has", Edge.told(EdgesOfMakersTest::nearlyFull).make(1, 7, 10, 60, 0), 50);
    Edge.refused("51", EdgesOfMakersTest::nearlyFull, y -> y.make(1, 7, 0, 51, 0));
    Edge.refused("60", EdgesOfMakersTest::nearlyFull, y -> y.make(1, 8, 0, 60, 0));
    Edge.refused("51 behind one PAGE more", y -> { nearlyFull(y); y.page(7, 5000, 0); }, y -> y.make(1, 6, 0, 60, 0));
  }

  private static void makeItsStuffs() {
    Edge.says(27, "His of STUFFS are in it then.");
    SafeVolumes x = new SafeVolumes();
    Edge.stuffs(x, 10);
    Edge.piece(x, 0, 4);
    Edge.pieces(x, 2);
    Edge.maker(x, "of 0;of 9;of 2");
    Edge.maker(x, "from 0");
    x.truth(0, 0);
    Edge.due("make", x.make(0, 0, 0, 1, 0), 1);
    Edge.due("its own and his", x.of(0, 6), 1 | 4 | 1 << 9);
    Edge.due("of the other one", x.of(1, 6), 0);
    Edge.due("a MAKER without", x.make(1, 1, 0, 1, 0), 1);
    Edge.due("none", x.of(1, 6), 0);
    Edge.due("no PAGE was added", x.make(0, 2, 50, 1, 0), 0);
    Edge.due("his all the same", x.of(2, 6), 1 | 4 | 1 << 9);
    Edge.due("to be tested", x.test(2, 9), 1);
    Edge.says(27, "a STUFF of his is not there");
    for (int there = 0; there < 10; there++) {
      int count = there;
      Edge.Telling ahead = y -> { Edge.stuffs(y, count); Edge.pieces(y, 2); Edge.maker(y, "of " + count); y.truth(0, 0); };
      Edge.refused("STUFF " + there + " of " + there, ahead, y -> y.make(0, 0, 0, 1, 0));
      SafeVolumes y = Edge.told(ahead);
      Edge.stuffs(y, 1);
      Edge.due("STUFF " + there + " of " + (there + 1), y.make(0, 0, 0, 1, 0), 1);
      Edge.due("it is in it", y.of(0, 6), 1 << there);
    }
    Edge.refused("one of two is not there", y -> { Edge.stuffs(y, 1); Edge.pieces(y, 2); Edge.maker(y, "of 0; of 1"); y.truth(0, 0); }, y -> y.make(0, 0, 0, 1, 0));
    Edge.refused("no PAGE would be added either", y -> { Edge.pieces(y, 2); Edge.maker(y, "of 0"); }, y -> y.make(0, 0, 0, 1, 0));
  }

  // ---- rows of READERS

  private static SafeVolumes readers(String... texts) {
    SafeVolumes x = Edge.told(y -> Edge.pieces(y, 2));
    for (String text : texts) Edge.reader(x, text);
    return x;
  }
  private static void eight(SafeVolumes x) {
    Edge.pieces(x, 3);
    for (int i = 0; i < 8; i++) Edge.reader(x, "yes 1000; takes " + (i + 1) + "; coins " + (i + 1));
  }
  private static void soonestTakes() {
    Edge.says(28, "SOONEST of a set of READERS (bits, 1 to 6 of them) what 0 to 5: the READER at that place (NONE: not so many), 6: the WAIT. NONE without these.");
    SafeVolumes x = Edge.told(EdgesOfMakersTest::eight);
    for (int set = 1; set < 256; set++) {
      int first = -1, sum = 0, many = Integer.bitCount(set);
      for (int i = 7; i >= 0; i--) if ((set >> i & 1) == 1) { first = i; sum += i + 1; }
      if (set % 2 == 0) Edge.due("the first of " + set, x.soonest(set, 0, 1, 0), many > 6 ? -1 : first);
      else Edge.due("the WAIT of " + set, x.soonest(set, 0, 1, 6), many > 6 ? -1 : sum * (long) Math.pow(1000, many - 1));
    }
    Edge.says(28, "A ROW of READERS (a set, 6 at most)");
    Edge.range("soonest(set n)", EdgesOfMakersTest::eight, (y, n) -> y.soonest(n, 0, 1, 0), 1, 0, 252, 2, -1);
    for (int set : new int[] {0, -1, 127, 254, 255, 256, 257, 512, 1 << 30, MOST, Integer.MIN_VALUE}) {
      Edge.refused("the first of the set " + set, EdgesOfMakersTest::eight, y -> y.soonest(set, 0, 1, 0));
      Edge.refused("the WAIT of the set " + set, EdgesOfMakersTest::eight, y -> y.soonest(set, 0, 1, 6));
    }
    Edge.refused("a READER that is not", Edge::everything, y -> y.soonest(4, 0, 1, 0));
    Edge.refused("a READER that is not, and one that is", Edge::everything, y -> y.soonest(5, 0, 1, 0));
    Edge.refused("without READERS", y -> Edge.pieces(y, 2), y -> y.soonest(1, 0, 1, 6));
    Edge.range("soonest(63,0,1,n)", EdgesOfMakersTest::eight, (y, n) -> y.soonest(63, 0, 1, n), 0, 0, 6, 21L * 1000000000000000L, -1);
    Edge.range("soonest(1,n,0,0)", EdgesOfMakersTest::eight, (y, n) -> y.soonest(1, n, 0, 0), 1, 0, 2, 0, -1);
    Edge.range("soonest(1,0,n,0)", EdgesOfMakersTest::eight, (y, n) -> y.soonest(1, 0, n, 0), 1, 0, 2, 0, -1);
    for (int p : new int[] {-1, 0, 1, 2, 3}) Edge.refused("a PIECE beside itself", EdgesOfMakersTest::eight, y -> y.soonest(1, p, p, 6));
    for (int many = 1; many <= 6; many++) {
      for (int place = 0; place < 6; place++) Edge.due("the place " + place + " of " + many, x.soonest((1 << many) - 1 << 2, 0, 1, place), place < many ? place + 2 : -1);
    }
  }

  private static long waitOf(int[] order, int[] takes, int[] chances) {
    long sum = 0;
    for (int i = 0; i < order.length; i++) {
      long part = takes[order[i]];
      for (int j = 0; j < i; j++) part *= chances[order[j]];
      for (int j = i; j < order.length - 1; j++) part *= 1000;
      sum += part;
    }
    return sum;
  }
  private static void soonestOrders() {
    Edge.says(28, "SOONEST: the order with the least WAIT; of several the first by its READERS.");
    int[][] rows = {{3, 500, 3, 500, 3, 500}, {1, 1000, 1, 1000, 1, 0}, {5, 0, 5, 0, 5, 0}, {9, 0, 2, 0, 1, 0}, {2, 500, 4, 0, 1, 750}, {4, 999, 4, 1000, 4, 998}, {1, 1000, 1, 999, 99, 0}, {6, 400, 5, 500, 7, 300}};
    int[][] orders = {{0, 1, 2}, {0, 2, 1}, {1, 0, 2}, {1, 2, 0}, {2, 0, 1}, {2, 1, 0}};
    for (int[] row : rows) {
      int[] takes = {row[0], row[2], row[4]}, chances = {row[1], row[3], row[5]};
      SafeVolumes x = readers("yes " + row[1] + ";takes " + row[0], "yes " + row[3] + ";takes " + row[2], "yes " + row[5] + ";takes " + row[4]);
      int[] best = orders[0];
      for (int[] order : orders) if (waitOf(order, takes, chances) < waitOf(best, takes, chances)) best = order;
      Edge.due("the WAIT", x.soonest(7, 0, 1, 6), waitOf(best, takes, chances));
      for (int i = 0; i < 3; i++) Edge.due("the place " + i, x.soonest(7, 0, 1, i), best[i]);
      Edge.due("no fourth", x.soonest(7, 0, 1, 3), -1);
    }
    Edge.says(28, "till one says no: WAIT: weeks that each takes, times the CHANCES of all ahead of him (in thousandths each), all together");
    SafeVolumes x = readers("yes 0;takes 5", "yes 0;takes 5", "yes 1000;takes 1", "yes 0;takes 6");
    Edge.due("behind a no nothing is waited for", x.soonest(0b1011, 0, 1, 6), 5000000);
    Edge.due("alike: the least", x.soonest(0b1011, 0, 1, 0), 0);
    Edge.due("alike: the next", x.soonest(0b1011, 0, 1, 1), 1);
    Edge.due("alike: the last", x.soonest(0b1011, 0, 1, 2), 3);
    Edge.due("5 ahead of 1", x.soonest(0b1100, 0, 1, 0), 3);
    Edge.due("5 ahead of 1", x.soonest(0b1100, 0, 1, 6), 6000);
  }

  private static void longestWaits() {
    Edge.says(28, "as thousandths to the power of how many they are less 1 (a whole number so)");
    String[] six = new String[6], none = new String[6];
    for (int i = 0; i < 6; i++) { six[i] = "yes 1000;takes 99"; none[i] = "yes 0;takes 99"; }
    long thousand = 1;
    for (int many = 1; many <= 6; many++) {
      Edge.due("the longest of " + many, readers(six).soonest((1 << many) - 1, 0, 1, 6), 99 * many * thousand);
      Edge.due("all say no: " + many, readers(none).soonest((1 << many) - 1, 0, 1, 6), 99 * thousand);
      thousand *= 1000;
    }
    SafeVolumes x = readers("yes 999;takes 99", "yes 999;takes 99", "yes 999;takes 99", "yes 999;takes 99", "yes 999;takes 99", "yes 999;takes 99");
    BigInteger sum = BigInteger.ZERO;
    for (int i = 0; i < 6; i++) sum = sum.add(BigInteger.valueOf(99).multiply(BigInteger.valueOf(999).pow(i)).multiply(BigInteger.valueOf(1000).pow(5 - i)));
    Edge.due("all of 999", x.soonest(63, 0, 1, 6), sum.longValueExact());
  }

  /** Each piece has its own price, and its own hand. */
  private static SafeVolumes threePrices(String... texts) {
    SafeVolumes x = new SafeVolumes();
    x.piece(0, 0, 0, 0, 0, 0, 0, 100);
    x.piece(0, 90, 0, 0, 0, 0, 0, 900);
    x.piece(1, 0, 9, 0, 0, 0, 0, 1000);
    for (String text : texts) Edge.reader(x, text);
    return x;
  }
  private static void rowsByPieces() {
    Edge.says(28, "one after the other, for a PIECE beside another one");
    SafeVolumes x = threePrices("yes price", "yes 1000 - price", "yes apart * 10", "yes own * 300");
    Edge.due("the first", x.soonest(3, 0, 1, 6), 1100);
    Edge.due("the first READER is soonest", x.soonest(3, 0, 1, 0), 0);
    Edge.due("the second", x.soonest(3, 1, 0, 6), 1100);
    Edge.due("the second READER is soonest", x.soonest(3, 1, 0, 0), 1);
    Edge.due("the third", x.soonest(3, 2, 0, 6), 1000);
    Edge.due("beside the second", x.soonest(12, 0, 1, 6), 1300);
    Edge.due("beside the third", x.soonest(12, 0, 2, 6), 1000);
    Edge.due("the first again", x.soonest(3, 0, 2, 6), 1100);
    Edge.says(29, "SUREST for coins: the set of READERS");
    SafeVolumes y = threePrices("yes price", "yes 1000 - price", "yes apart * 10", "yes own * 300");
    Edge.due("of the first beside the second", y.surest(1, 0, 1), 1);
    Edge.due("of the second beside the first", y.surest(1, 1, 0), 2);
    Edge.due("of the first beside the third", y.surest(1, 0, 2), 8);
    Edge.due("of the first beside the second again", y.surest(1, 0, 1), 1);
  }

  private static void surestTakes() {
    Edge.says(29, "SUREST for coins (0 to 9999): the set; NONE without these.");
    Edge.range("surest(n,0,1)", Edge::everything, (x, n) -> x.surest(n, 0, 1), 0, 0, 9999, 2, -1);
    Edge.range("surest(9,n,0)", Edge::everything, (x, n) -> x.surest(9, n, 0), 1, 2, 2, 2, -1);
    Edge.range("surest(9,0,n)", Edge::everything, (x, n) -> x.surest(9, 0, n), 1, 2, 2, 2, -1);
    for (int p : new int[] {-1, 0, 1, 2, 3}) Edge.refused("a PIECE beside itself", Edge::everything, x -> x.surest(9, p, p));
    Edge.due("without READERS", readers().surest(9999, 0, 1), 0);
    Edge.says(29, "READERS 0 to 5 alone");
    SafeVolumes x = readers("yes 900", "yes 900", "yes 900", "yes 900", "yes 900", "yes 900", "yes 0", "yes 0");
    Edge.due("6 and 7 are not among them", x.surest(9999, 0, 1), 63);
    Edge.due("one of six", x.surest(1, 0, 1), 1);
    Edge.due("five of six", x.surest(5, 0, 1), 31);
    SafeVolumes y = readers("yes 900", "yes 900", "yes 900", "yes 900", "yes 900", "yes 0");
    Edge.due("5 is", y.surest(9999, 0, 1), 32);
  }

  private static void surestSets() {
    Edge.says(29, "SUREST for coins: the set of READERS (of all; none, too: 0) whose coins together are not above these");
    SafeVolumes x = readers("yes 500;coins 10", "yes 500;coins 999", "yes 100;coins 20");
    int[] coins = {0, 9, 10, 19, 20, 29, 30, 998, 1018, 1019, 1028, 1029, 9999};
    int[] due = {0, 0, 1, 1, 4, 4, 5, 5, 5, 5, 5, 7, 7};
    for (int i = 0; i < coins.length; i++) Edge.due("for " + coins[i] + " coins", x.surest(coins[i], 0, 1), due[i]);
    SafeVolumes rich = readers("yes 1;coins 999", "yes 1;coins 999", "yes 1;coins 999", "yes 1;coins 999", "yes 1;coins 999", "yes 1;coins 999");
    Edge.due("all six for 5994", rich.surest(5994, 0, 1), 63);
    Edge.due("five for 5993", rich.surest(5993, 0, 1), 31);
    Edge.says(29, "with which all say yes with the least chance (product of CHANCES by 1000 each; compared exactly)");
    Edge.due("yes all the same", readers("yes 1000", "yes 1000").surest(9999, 0, 1), 0);
    Edge.due("999 is less than all", readers("yes 999").surest(9999, 0, 1), 1);
    Edge.due("six of 999 are less than five", readers("yes 999", "yes 999", "yes 999", "yes 999", "yes 999", "yes 999").surest(9999, 0, 1), 63);
    // 0.999 * 0.001 is less than 0.001; 1 and 2 together are 0.25, as 3 alone
    Edge.due("0.000999 and 0.001", readers("yes 1;coins 5", "yes 999;coins 5").surest(10, 0, 1), 3);
    Edge.due("0.600 * 0.400 is less than 0.241", readers("yes 600;coins 1", "yes 400;coins 1", "yes 241;coins 2").surest(2, 0, 1), 3);
    Edge.due("0.600 * 0.400 is not less than 0.239", readers("yes 600;coins 1", "yes 400;coins 1", "yes 239;coins 2").surest(2, 0, 1), 4);
    Edge.says(29, "of several the fewest coins, then the least number");
    Edge.due("as many coins: the least number", readers("yes 600;coins 1", "yes 400;coins 1", "yes 240;coins 2").surest(2, 0, 1), 3);
    Edge.due("as many coins: the least number, the other way", readers("yes 240;coins 2", "yes 400;coins 1", "yes 600;coins 1").surest(2, 0, 1), 1);
    Edge.due("the fewest coins", readers("yes 600;coins 2", "yes 400;coins 2", "yes 240;coins 3").surest(4, 0, 1), 4);
    Edge.due("the fewest coins", readers("yes 600;coins 1", "yes 400;coins 1", "yes 240;coins 3").surest(3, 0, 1), 3);
    Edge.due("0 and 0", readers("yes 0;coins 7", "yes 0;coins 6", "yes 0;coins 6").surest(99, 0, 1), 2);
    Edge.due("a no and what is paid for nothing", readers("yes 500;coins 1", "yes 0;coins 5", "yes 500;coins 1").surest(99, 0, 1), 2);
    Edge.due("a yes is paid for nothing", readers("yes 1000;coins 1", "yes 500;coins 1").surest(99, 0, 1), 2);
  }
}
