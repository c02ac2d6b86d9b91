/** The edges of promises 14 to 21: chances, what they tell, looks, tests, what is kept close, stands, and what that cost. */
public final class EdgesOfReadingTest {
  private static final int MOST = Integer.MAX_VALUE;
  /** 9223372036854775808, the first number beyond 64 bits with a sign. */
  private static final String ROUND = "65536*65536*65536*32768";

  public static void main(String[] args) {
    whoseChance();
    heldChances();
    goingRound();
    handsApart();
    whatItLiesBeside();
    lates();
    otherWords();
    firstYes();
    joins();
    tells();
    looks();
    seeds();
    twoHundredLooks();
    keptFromLooks();
    tests();
    twoHundredTests();
    keep();
    stands();
    standsByWeek();
    standsByTest();
    costs();
    cheapest();
    Edge.finish(14, 21);
  }

  private static SafeVolumes pieces(int n) { return Edge.told(x -> Edge.pieces(x, n)); }
  private static int chanceOf(String text) { SafeVolumes x = pieces(2); Edge.due("reader", Edge.reader(x, text), 0); return x.chance(0, 0, 1); }
  private static void chance(String text, int want) { Edge.due("CHANCE by [" + text + "]", chanceOf(text), want); }

  // ---- CHANCE

  private static void whoseChance() {
    Edge.says(14, "CHANCE; NONE without these (PIECES unlike).");
    Edge.range("chance(n,0,1)", Edge::everything, (x, n) -> x.chance(n, 0, 1), 0, 400 + 8 + 7 + 6 + 5 + 4, 1, 0, -1);
    Edge.range("chance(1,n,1)", x -> { Edge.everything(x); Edge.piece(x, 0, 0); }, (x, n) -> x.chance(1, n, 0), 1, 0, 3, 0, -1);
    Edge.range("chance(1,0,n)", x -> { Edge.everything(x); Edge.piece(x, 0, 0); }, (x, n) -> x.chance(1, 0, n), 1, 0, 3, 0, -1);
    for (int p = 0; p < 3; p++) { int one = p; Edge.refused("a PIECE beside itself", Edge::everything, x -> x.chance(0, one, one)); }
    Edge.refused("no such PIECE beside itself", Edge::everything, x -> x.chance(0, 3, 3));
    SafeVolumes x = pieces(90);
    for (int i = 0; i < 8; i++) Edge.reader(x, "yes " + i);
    for (int i = 0; i < 8; i++) Edge.due("the READER " + i, x.chance(i, 89, 0), i);
    Edge.due("the READER 8", x.chance(8, 89, 0), -1);
    Edge.due("the PIECE 90", x.chance(0, 90, 0), -1);
    Edge.due("beside the PIECE 90", x.chance(0, 0, 90), -1);
  }

  private static void heldChances() {
    Edge.says(14, "held to 0 to 1000; 500 without.");
    chance("yes 0", 0);
    chance("yes 0 - 1", 0);
    chance("yes 1", 1);
    chance("yes 999", 999);
    chance("yes 1000", 1000);
    chance("yes 1001", 1000);
    chance("yes 99999", 1000);
    chance("yes 0 - 99999", 0);
    chance("takes 1", 500);
    chance("coins 1", 500);
    chance("takes 1; coins 1", 500);
    chance("yes 7 if 1 = 2", 500);
    chance("yes 7 if 1 = 2; yes 8 if 2 = 1; takes 3", 500);
  }

  private static void goingRound() {
    Edge.says(14, "the SUM (64 bits, going round)");
    chance("yes " + ROUND + " - 1", 1000);
    chance("yes " + ROUND, 0);
    chance("yes " + ROUND + " + " + ROUND, 0);
    chance("yes " + ROUND + " + " + ROUND + " + 77", 77);
    chance("yes 0 - " + ROUND, 0);
    chance("yes 0 - " + ROUND + " - 1", 1000);
    chance("yes " + ROUND + " * 2 + 5", 5);
    chance("yes " + ROUND + " * 3 - " + ROUND + " + 6", 6);
    chance("yes 65536 * 65536 * 65536 * 65536 + 9", 9);
    chance("yes 65536 * 32768 - 1 + 1", 1000);
    chance("yes 65536 * 65536 + 3", 1000);
    chance("yes 0 - 65536 * 65536 + 3", 0);
    java.math.BigInteger n = java.math.BigInteger.ONE;
    StringBuilder text = new StringBuilder("yes 1");
    for (int i = 1; i <= 30; i++) {
      n = n.multiply(java.math.BigInteger.valueOf(99999));
      text.append("*99999");
      chance(text.toString(), (int) Math.max(0, Math.min(1000, n.longValue())));
      // the whole number is told digit by digit: none of it may be lost
      long rest = n.longValue();
      chance(text + " + 500 - " + product(rest), 500);
    }
    Edge.says(14, "SIGN one of < <= = >= >");
    chance("yes 1 if " + ROUND + " < 0; yes 2", 1);
    chance("yes 1 if " + ROUND + " - 1 > 0; yes 2", 1);
    chance("yes 1 if " + ROUND + " < " + ROUND + " - 1; yes 2", 1);
    chance("yes 1 if " + ROUND + " - 1 > " + ROUND + "; yes 2", 1);
    chance("yes 1 if " + ROUND + " >= " + ROUND + " - 1; yes 2", 2);
    chance("yes 1 if " + ROUND + " * 2 = 0; yes 2", 1);
    chance("yes 1 if 65536 * 65536 = 0; yes 2", 2);
    chance("yes 1 if 65536 * 65536 + 1 <= 1; yes 2", 2);
    for (int i = 1; i <= 3; i++) {
      chance("yes 1 if " + i + " < 2; yes 0", i < 2 ? 1 : 0);
      chance("yes 1 if " + i + " <= 2; yes 0", i <= 2 ? 1 : 0);
      chance("yes 1 if " + i + " = 2; yes 0", i == 2 ? 1 : 0);
      chance("yes 1 if " + i + " >= 2; yes 0", i >= 2 ? 1 : 0);
      chance("yes 1 if " + i + " > 2; yes 0", i > 2 ? 1 : 0);
    }
  }
  /** A number of 64 bits as a SUM that is taken away whole: its four parts of sixteen bits. */
  private static String product(long n) {
    return (n & 65535) + " - 65536*" + (n >>> 16 & 65535) + " - 65536*65536*" + (n >>> 32 & 65535) + " - 65536*65536*65536*" + (n >>> 48);
  }

  private static void handsApart() {
    Edge.says(14, "apart (their HANDS' numbers one by one, the differences without sign together)");
    SafeVolumes x = new SafeVolumes();
    x.piece(0, 0, 0, 0, 0, 0, 0, 0);
    x.piece(0, 99, 99, 99, 99, 99, 0, 0);
    x.piece(0, 99, 0, 0, 0, 0, 0, 0);
    x.piece(0, 0, 0, 0, 0, 99, 0, 0);
    x.piece(0, 0, 0, 0, 0, 0, 0, 0);
    Edge.reader(x, "yes apart");
    Edge.due("the farthest", x.chance(0, 0, 1), 495);
    Edge.due("the farthest, the other way", x.chance(0, 1, 0), 495);
    Edge.due("the first and the last number", x.chance(0, 2, 3), 198);
    Edge.due("alike", x.chance(0, 0, 4), 0);
    for (int i = 0; i < 5; i++) {
      SafeVolumes y = new SafeVolumes();
      y.piece(0, i == 0 ? 7 : 0, i == 1 ? 7 : 0, i == 2 ? 7 : 0, i == 3 ? 7 : 0, i == 4 ? 7 : 0, 0, 0);
      y.piece(0, 0, 0, 0, 0, 0, 0, 0);
      Edge.reader(y, "yes apart");
      Edge.due("the number " + i, y.chance(0, 0, 1), 7);
      Edge.due("the number " + i + " the other way", y.chance(0, 1, 0), 7);
    }
  }

  private static void whatItLiesBeside() {
    Edge.says(14, "own (1 if the other one is not TRUE, else 0)");
    SafeVolumes x = new SafeVolumes();
    for (int sort = 0; sort < 3; sort++) for (int i = 0; i < 2; i++) Edge.piece(x, sort, 0);
    Edge.reader(x, "yes own");
    for (int p = 0; p < 6; p++) for (int other = 0; other < 6; other++) if (p != other) Edge.due("own of " + p + " beside " + other, x.chance(0, p, other), other / 2 == 1 ? 0 : 1);
  }

  private static void lates() {
    Edge.says(14, "late (the greatest YEAR of its STUFFS less its AGE; 0 if that is below 0, or it has none)");
    SafeVolumes x = new SafeVolumes();
    x.stuff(1999, 1);
    x.stuff(1800, 1);
    x.stuff(1900, 1);
    x.stuff(1901, 1);
    int[] in = {0, 1, 2, 4, 8, 15, 6, 14};
    int[] due = {0, 99, 0, 0, 1, 99, 0, 1};
    for (int bits : in) Edge.piece(x, 0, bits);
    Edge.reader(x, "yes late");
    for (int i = 0; i < in.length; i++) Edge.due("late of the STUFFS " + in[i], x.chance(0, i, i == 0 ? 1 : 0), due[i]);
    for (int i = 0; i < in.length; i++) x.page(i, 365, 0);
    for (int i = 0; i < in.length; i++) Edge.due("a year on: late of the STUFFS " + in[i], x.chance(0, i, i == 0 ? 1 : 0), Math.max(0, due[i] - 1));
    x.page(1, 9999, 0);
    Edge.due("1999 less 1927", x.chance(0, 1, 0), 72);
  }

  private static void otherWords() {
    Edge.says(14, "wrong (its WRONG PAGES), shared (those SHARED with some SOURCE), nowhere, pages, price, week (NOW), volumes (VOLUMES there are)");
    String[] words = {"wrong", "shared", "nowhere", "pages", "price", "week", "volumes"};
    SafeVolumes x = new SafeVolumes();
    x.piece(1, 0, 0, 0, 0, 0, 0, 0);
    x.piece(2, 0, 0, 0, 0, 0, 0, 0);
    for (String word : words) Edge.reader(x, "yes " + word);
    for (int i = 0; i < 7; i++) Edge.due("without any: " + words[i], x.chance(i, 0, 1), 0);
    SafeVolumes y = new SafeVolumes();
    y.piece(0, 0, 0, 0, 0, 0, 0, 9999);
    for (int i = 1; i < 90; i++) y.piece(i % 2 * 2, 0, 0, 0, 0, 0, 0, 1);
    for (int d = 0; d < 9; d++) { y.page(0, d, 1); if (d < 6) y.truth(d, d < 5 ? 2 : 1); if (d < 3) y.fact(d, d, 1); }
    y.fact(5, 7, 3);
    y.clock(519);
    for (String word : words) Edge.reader(y, word.equals("price") ? "yes price - 9000" : "yes " + word);
    int[] due = {5, 3, 2, 9, 999, 519, 45};
    for (int i = 0; i < 7; i++) Edge.due(words[i], y.chance(i, 0, 1), due[i]);
    int[] other = {0, 0, 0, 0, 0, 519, 45};
    for (int i = 0; i < 7; i++) Edge.due("of the one beside: " + words[i], y.chance(i, 1, 0), other[i]);
  }

  private static void firstYes() {
    Edge.says(14, "his first yes CLAUSE without a TEST, or whose TEST holds");
    chance("yes 1; yes 2", 1);
    chance("yes 1; yes 2 if 1 = 1", 1);
    chance("yes 1 if 1 = 1; yes 2", 1);
    chance("yes 1 if 1 = 2; yes 2", 2);
    chance("takes 9; yes 1 if 1 = 2; coins 8; yes 2 if 1 = 2; yes 3", 3);
    chance("yes 1 if 1 = 2; yes 2 if 1 = 1; yes 3", 2);
    StringBuilder text = new StringBuilder();
    for (int i = 1; i < 12; i++) text.append("yes ").append(i).append(" if 1=2;");
    chance(text + "yes 12", 12);
    chance(text + "yes 12 if 1=1", 12);
    chance(text + "yes 12 if 1=2", 500);
  }

  private static void joins() {
    Edge.says(14, "TEST: PART { or PART }. PART: FACT { and FACT }. FACT: not FACT | [ TEST ]");
    String t = "1=1", f = "1=2";
    for (int i = 0; i < 8; i++) {
      boolean a = (i & 1) > 0, b = (i & 2) > 0, c = (i & 4) > 0;
      String x = a ? t : f, y = b ? t : f, z = c ? t : f;
      chance("yes 1 if " + x + " and " + y + " or " + z + "; yes 0", a && b || c ? 1 : 0);
      chance("yes 1 if " + x + " or " + y + " and " + z + "; yes 0", a || b && c ? 1 : 0);
      chance("yes 1 if [" + x + " or " + y + "] and " + z + "; yes 0", (a || b) && c ? 1 : 0);
      chance("yes 1 if " + x + " and [" + y + " or " + z + "]; yes 0", a && (b || c) ? 1 : 0);
      chance("yes 1 if not " + x + " and " + y + " or not " + z + "; yes 0", !a && b || !c ? 1 : 0);
      chance("yes 1 if not [" + x + " and " + y + "] or not not " + z + "; yes 0", !(a && b) || c ? 1 : 0);
      chance("yes 1 if not not not [[" + x + "] or not [" + y + "]] and " + z + "; yes 0", !(a || !b) && c ? 1 : 0);
    }
    Edge.says(14, "SUM: TERM { (+ or -) TERM }. TERM: VALUE { * VALUE }.");
    chance("yes 100 - 10 - 5", 85);
    chance("yes 100 - 10 + 5", 95);
    chance("yes 100 - 2 * 3 * 4 + 5 * 6", 106);
    chance("yes 2 * 3 + 4", 10);
    chance("yes 1 if 2 + 3 * 4 = 15 - 1 and 10 - 3 - 2 = 5; yes 0", 1);
    Edge.says(14, "yes SUM [ if TEST ]");
    chance("yes 1 + 2 if 3 = 3; yes 0", 3);
    chance("yes 20 - 2 * 3 if 4 + 5 = 9 and not 7 - 1 * 2 > 5; yes 0", 14);
    chance("yes 5 * 7 if [1 + 1 = 2]; yes 0", 35);
    chance("yes 1 + 2 if 1 + 2 = 4; yes 3 * 4 + 5 if 2 * 2 + 1 = 5; yes 0", 17);
    chance("yes 1 + 2 * 3; yes 0", 7);
    chance("yes 1 - 1 if not [1 + 1 = 2 * 1]; yes 3 - 1 - 1", 1);
  }

  // ---- TELLS

  private static void tells() {
    Edge.says(15, "TELLS of one by another one beside a third (all unlike); -2000 without these.");
    Edge.Telling ahead = x -> { Edge.everything(x); Edge.piece(x, 0, 0); Edge.reader(x, "yes 7"); };
    Edge.range("tells(n,0,1,2)", Edge::everything, (x, n) -> x.tells(n, 0, 1, 2), 0, (4 + 2 + 0 + 2 + 4) - (4 + 5 + 6 + 7 + 8), 1, 0, -2000);
    Edge.range("tells(1,n,0,1)", ahead, (x, n) -> x.tells(1, n, 0, 1), 2, 0, 3, 0, -2000);
    Edge.range("tells(1,0,n,1)", ahead, (x, n) -> x.tells(1, 0, n, 1), 2, 0, 3, 0, -2000);
    Edge.range("tells(1,0,1,n)", ahead, (x, n) -> x.tells(1, 0, 1, n), 2, 0, 3, 0, -2000);
    int[][] alike = {{0, 0, 1}, {0, 1, 0}, {1, 0, 0}, {0, 0, 0}, {2, 2, 1}, {2, 1, 2}, {1, 2, 2}, {3, 3, 3}};
    for (int[] p : alike) Edge.refused("alike", Edge::everything, x -> x.tells(0, p[0], p[1], p[2]), -2000);
    Edge.says(15, "the CHANCE of the one less that of the other");
    SafeVolumes x = new SafeVolumes();
    x.piece(0, 0, 0, 0, 0, 0, 0, 9999);
    Edge.pieces(x, 2);
    Edge.reader(x, "yes price");
    Edge.due("the most", x.tells(0, 0, 1, 2), 1000);
    Edge.due("the least", x.tells(0, 1, 0, 2), -1000);
    Edge.due("none", x.tells(0, 1, 2, 0), 0);
  }

  // ---- LOOKS

  private static void looks() {
    Edge.says(16, "A LOOK: 1 he will say yes, 0 no; NONE: there are 200, the PIECE is KEPT CLOSE, or something is not as told.");
    Edge.range("look(n,0,2,0)", Edge::everything, (x, n) -> x.look(n, 0, 2, 0), 0, 1, 1, 0, -1);
    Edge.Telling ahead = x -> { Edge.everything(x); Edge.piece(x, 0, 0); };
    Edge.range("look(0,n,1,0)", ahead, (x, n) -> x.look(1, n, 0, 0), 2, 0, 3, 0, -1);
    Edge.range("look(0,0,n,0)", ahead, (x, n) -> x.look(1, 0, n, 0), 1, 0, 3, 0, -1);
    for (int p : new int[] {-1, 0, 2, 3}) Edge.refused("a PIECE beside itself", Edge::everything, x -> x.look(0, p, p, 0));
    Edge.says(16, "is below the CHANCE as it is when the LOOK begins");
    SafeVolumes x = pieces(2);
    Edge.reader(x, "yes 1000 - pages * 1000");
    Edge.due("yes, as it is", x.look(0, 0, 1, 0), 1);
    x.page(0, 0, 0);
    Edge.due("what was said stays said", x.stand(0, 519), 0);
    Edge.due("no, as it is now", x.look(0, 0, 1, 0), 0);
    Edge.due("said", x.stand(0, 519), 1);
  }

  /** What a seed is in a LOOK, as the document tells it, with whole numbers of any size. */
  private static int drawOf(int seed) {
    java.math.BigInteger n = java.math.BigInteger.valueOf(seed).multiply(java.math.BigInteger.valueOf(1103515245)).add(java.math.BigInteger.valueOf(12345));
    return n.mod(java.math.BigInteger.valueOf(2147483648L)).divide(java.math.BigInteger.valueOf(65536)).mod(java.math.BigInteger.valueOf(1000)).intValue();
  }
  private static void seeds() {
    Edge.says(16, "by a seed (0 to 2147483647)");
    Edge.range("look by the seed n", Edge::everything, (x, n) -> x.look(0, 0, 1, n), 0, 1, MOST, drawOf(MOST) < 430 ? 1 : 0, -1);
    for (int seed : new int[] {-1, -2, Integer.MIN_VALUE}) Edge.refused("a seed below 0", Edge::everything, x -> x.look(0, 0, 1, seed));
    Edge.says(16, "he says yes if (seed * 1103515245 + 12345, of 2147483648 the rest) by 65536, downwards, mod 1000 is below the CHANCE");
    for (int seed : new int[] {0, 1, 2, 65535, 65536, 1 << 30, MOST - 1, MOST, 123456789, 1946}) {
      int draw = drawOf(seed);
      for (int chance : new int[] {draw - 1, draw, draw + 1, 0, 1000}) {
        if (chance < 0 || chance > 1000) continue;
        SafeVolumes x = pieces(2);
        Edge.reader(x, "yes " + chance);
        Edge.due("the seed " + seed + " (" + draw + ") with the CHANCE " + chance, x.look(0, 0, 1, seed), draw < chance ? 1 : 0);
      }
    }
  }

  private static void twoHundredLooks() {
    Edge.says(16, "LOOKS, 200 at most");
    SafeVolumes x = pieces(3);
    Edge.reader(x, "yes 0");
    for (int i = 1; i <= 200; i++) {
      Edge.due("a refused one is none", x.look(0, 0, 0, 0), -1);
      Edge.due("look", x.look(0, i % 2, 2, i), 0);
    }
    Edge.due("LOOKS", x.count(8), 200);
    Edge.due("a 201st", x.look(0, 0, 1, 0), -1);
    Edge.due("LOOKS", x.count(8), 200);
    Edge.Telling full = y -> { Edge.everything(y); for (int i = 2; i < 200; i++) y.look(1, 0, 2, i); };
    Edge.refused("a 201st of another one", full, y -> y.look(1, 2, 1, 0));
    Edge.refused("a 201st with a yes", full, y -> y.look(0, 2, 1, 0));
  }

  private static void keptFromLooks() {
    Edge.says(16, "A PIECE is KEPT CLOSE till a WEEK (0 at first): ahead of it no LOOK at it (it may lie beside), and no TEST of it.");
    SafeVolumes x = pieces(2);
    Edge.reader(x, "yes 0");
    Edge.due("at first it is not", x.look(0, 0, 1, 0), 0);
    x.keep(0, 0);
    Edge.due("till 0, in 0", x.look(0, 0, 1, 0), 0);
    x.keep(0, 1);
    Edge.due("till 1, in 0", x.look(0, 0, 1, 0), -1);
    Edge.due("it may lie beside", x.look(0, 1, 0, 0), 0);
    x.clock(1);
    Edge.due("till 1, in 1", x.look(0, 0, 1, 0), 0);
    x.keep(0, 519);
    x.clock(518);
    Edge.due("till 519, in 518", x.look(0, 0, 1, 0), -1);
    Edge.due("it may lie beside", x.look(0, 1, 0, 0), 0);
    x.clock(519);
    Edge.due("till 519, in 519", x.look(0, 0, 1, 0), 0);
    Edge.due("LOOKS", x.count(8), 6);
    Edge.refused("a LOOK at a PIECE that is KEPT CLOSE", Edge::everything, y -> y.look(1, 1, 0, 0));
    Edge.due("the READERS may be asked of it all the same", Edge.told(Edge::everything).chance(1, 1, 0), 0);
  }

  // ---- TESTS

  private static void tests() {
    Edge.says(17, "A TEST: 1 the STUFF is TOO YOUNG, 0 not; NONE: there are 200, the PIECE is KEPT CLOSE, it is not in it, or without these.");
    Edge.Telling ahead = x -> { Edge.everything(x); Edge.stuffs(x, 8); Edge.piece(x, 0, 1023); };
    Edge.range("test(3,n)", ahead, (x, n) -> x.test(3, n), 0, 0, 9, 1, -1);
    for (int n : new int[] {10, 31, 32, 33, 64, -31, -32}) Edge.refused("test(3," + n + ")", ahead, x -> x.test(3, n));
    Edge.range("test(n,0)", x -> { Edge.everything(x); Edge.piece(x, 0, 1); x.clock(9); x.piece(2, 0, 0, 0, 0, 0, 1, 0); }, (x, n) -> x.test(n, 0), 3, 0, 4, 0, -1);
    Edge.refused("a STUFF that is not in it", Edge::everything, x -> x.test(2, 0));
    Edge.refused("a STUFF that there is not", Edge::everything, x -> x.test(0, 2));
    SafeVolumes x = new SafeVolumes();
    x.stuff(1904, 1);
    x.stuff(1905, 1);
    x.stuff(1906, 1);
    Edge.piece(x, 0, 5);
    Edge.piece(x, 0, 7);
    x.page(1, 365 * 5, 0);
    Edge.due("below its AGE", x.test(1, 0), 0);
    Edge.due("as its AGE", x.test(1, 1), 0);
    Edge.due("above its AGE", x.test(1, 2), 1);
    Edge.due("it is in the other one", x.test(0, 1), -1);
    Edge.due("above 1900", x.test(0, 0), 1);
    Edge.due("TESTS", x.count(9), 4);
    Edge.says(17, "and no TEST of it");
    Edge.refused("a TEST of a PIECE that is KEPT CLOSE", Edge::everything, y -> y.test(1, 0));
    for (int till : new int[] {0, 6, 7, 519}) {
      SafeVolumes y = Edge.told(Edge::everything);
      y.keep(0, till);
      Edge.due("till " + till + ", in 6", y.test(0, 0), till <= 6 ? 0 : -1);
      y.clock(till < 7 ? 7 : till);
      Edge.due("till " + till + ", in it", y.test(0, 0), 0);
    }
  }

  private static void twoHundredTests() {
    Edge.says(17, "TESTS, 200 at most");
    SafeVolumes x = new SafeVolumes();
    x.stuff(1950, 1);
    Edge.piece(x, 0, 1);
    for (int i = 1; i <= 200; i++) {
      Edge.due("a refused one is none", x.test(0, 1), -1);
      Edge.due("test", x.test(0, 0), 1);
    }
    Edge.due("TESTS", x.count(9), 200);
    Edge.due("a 201st", x.test(0, 0), -1);
    Edge.due("TESTS", x.count(9), 200);
    Edge.refused("a 201st", y -> { Edge.everything(y); Edge.piece(y, 0, 2); for (int i = 1; i < 200; i++) y.test(0, 0); }, y -> y.test(3, 1));
  }

  private static void keep() {
    Edge.says(18, "A PIECE is KEPT CLOSE till a WEEK: till when it was; NONE, and nothing happens, without these.");
    Edge.range("keep(1,n)", Edge::everything, (x, n) -> x.keep(1, n), 0, 9, 519, 9, -1);
    Edge.range("keep(n,5)", Edge::everything, (x, n) -> x.keep(n, 5), 0, 0, 2, 0, -1);
    Edge.refused("keep(3,0)", Edge::everything, x -> x.keep(3, 0));
    SafeVolumes x = pieces(2);
    int[] till = {0, 519, 0, 7, 7, 3, 519, 1};
    int before = 0;
    for (int n : till) {
      Edge.due("keep(0," + n + ")", x.keep(0, n), before);
      before = n;
    }
    x.clock(519);
    Edge.due("a WEEK that is over", x.keep(0, 2), 1);
    Edge.due("the other one, at first", x.keep(1, 0), 0);
  }

  // ---- STAND, COST, CHEAPEST

  private static void stands() {
    Edge.says(19, "STAND; NONE without these.");
    Edge.range("stand(2,n)", Edge::everything, (x, n) -> x.stand(2, n), 0, 0, 519, 2, -1);
    Edge.range("stand(n,519)", Edge::everything, (x, n) -> x.stand(n, 519), 0, 3, 2, 2, -1);
    Edge.says(19, "else 2 a no beside a TRUE one; else 1 a no; else 0");
    SafeVolumes x = new SafeVolumes();
    for (int i = 0; i < 4; i++) Edge.piece(x, i == 3 ? 0 : i, 0);
    Edge.reader(x, "yes 0");
    Edge.reader(x, "yes 1000");
    Edge.due("nothing said", x.stand(0, 519), 0);
    x.look(1, 0, 1, 0);
    x.look(1, 0, 2, 0);
    Edge.due("yes alone", x.stand(0, 519), 0);
    x.look(0, 0, 2, 0);
    Edge.due("a no beside another paper", x.stand(0, 519), 1);
    x.look(0, 0, 1, 0);
    Edge.due("a no beside a TRUE one", x.stand(0, 519), 2);
    x.look(0, 0, 3, 0);
    x.look(1, 0, 1, 0);
    Edge.due("and others behind it", x.stand(0, 519), 2);
    Edge.due("what lay beside is not judged", x.stand(1, 519), 0);
    Edge.due("what lay beside is not judged", x.stand(2, 519), 0);
    x.look(0, 1, 3, 0);
    Edge.due("a TRUE one beside a VOLUME", x.stand(1, 519), 1);
    x.look(0, 3, 0, 0);
    Edge.due("a VOLUME beside a VOLUME", x.stand(3, 519), 1);
  }

  private static void standsByWeek() {
    Edge.says(19, "by what was said or tested up to it");
    SafeVolumes x = new SafeVolumes();
    x.stuff(1950, 1);
    for (int i = 0; i < 3; i++) Edge.piece(x, i, 1);
    Edge.reader(x, "yes 0; takes 2");
    Edge.reader(x, "yes 0");
    Edge.reader(x, "yes 0; takes 99");
    x.clock(10);
    x.look(0, 0, 2, 0);
    x.look(2, 0, 1, 0);
    x.clock(20);
    x.look(1, 0, 1, 0);
    x.clock(30);
    x.test(0, 0);
    int[] weeks = {0, 10, 11, 12, 13, 20, 21, 22, 29, 30, 31, 109, 519};
    int[] due = {0, 0, 0, 1, 1, 1, 2, 2, 2, 3, 3, 3, 3};
    for (int i = 0; i < weeks.length; i++) Edge.due("stand in " + weeks[i], x.stand(0, weeks[i]), due[i]);
    Edge.says(19, "he says it in the WEEK NOW and takes (519 at most)");
    int[] now = {418, 419, 420, 421, 500, 518, 519};
    int[] said = {517, 518, 519, 519, 519, 519, 519};
    for (int i = 0; i < now.length; i++) {
      SafeVolumes y = pieces(2);
      Edge.reader(y, "yes 0; takes 99");
      y.clock(now[i]);
      y.look(0, 0, 1, 0);
      Edge.due("ahead of " + said[i], y.stand(0, said[i] - 1), 0);
      Edge.due("in " + said[i], y.stand(0, said[i]), 1);
      Edge.due("in 519", y.stand(0, 519), 1);
    }
    SafeVolumes z = pieces(2);
    Edge.reader(z, "yes 0");
    z.look(0, 0, 1, 0);
    Edge.due("not in the WEEK in which it begins", z.stand(0, 0), 0);
    Edge.due("takes 1", z.stand(0, 1), 1);
  }

  private static void standsByTest() {
    Edge.says(19, "3 a TEST of it, of a STUFF that is TOO YOUNG (as it is now)");
    SafeVolumes x = new SafeVolumes();
    x.stuff(1901, 1);
    x.stuff(1902, 1);
    x.stuff(1900, 1);
    Edge.piece(x, 0, 7);
    Edge.piece(x, 0, 7);
    Edge.reader(x, "yes 0");
    x.look(0, 0, 1, 0);
    x.test(0, 2);
    Edge.due("a TEST of one that is not", x.stand(0, 519), 1);
    x.test(0, 0);
    Edge.due("a TEST of one that is", x.stand(0, 0), 3);
    Edge.due("not of the other PIECE", x.stand(1, 519), 0);
    x.page(0, 364, 0);
    Edge.due("1901 is above 1900", x.stand(0, 519), 3);
    x.page(0, 365, 0);
    Edge.due("1901 is not above 1901", x.stand(0, 519), 1);
    Edge.due("it is not any more what it was found", x.stand(0, 0), 0);
    x.test(0, 1);
    Edge.due("1902 is above 1901", x.stand(0, 0), 3);
    x.page(0, 730, 0);
    Edge.due("1902 is not above 1902", x.stand(0, 519), 1);
  }

  private static void costs() {
    Edge.says(20, "COST; NONE without it.");
    Edge.range("cost(n)", Edge::everything, (x, n) -> x.cost(n), 0, 1, 2, 0, -1);
    Edge.says(20, "the WEEKS from that in which it CAME to its first TEST of such a one (to NOW without one); 0 without such a STUFF");
    SafeVolumes x = new SafeVolumes();
    x.stuff(1900, 1);
    x.stuff(1901, 1);
    x.stuff(1902, 1);
    Edge.piece(x, 0, 7);
    Edge.piece(x, 0, 1);
    Edge.piece(x, 0, 0);
    Edge.due("in the WEEK in which it CAME", x.cost(0), 0);
    x.clock(519);
    Edge.due("to NOW, the most", x.cost(0), 519);
    Edge.due("a STUFF that is not TOO YOUNG", x.cost(1), 0);
    Edge.due("no STUFF", x.cost(2), 0);
    Edge.piece(x, 0, 7);
    Edge.due("CAME in 519", x.cost(3), 0);
    SafeVolumes y = new SafeVolumes();
    y.stuff(1900, 1);
    y.stuff(1901, 1);
    y.stuff(1902, 1);
    y.clock(3);
    Edge.piece(y, 0, 7);
    Edge.piece(y, 0, 7);
    y.clock(5);
    y.test(0, 0);
    y.test(1, 1);
    y.clock(8);
    Edge.due("a TEST of one that is not TOO YOUNG", y.cost(0), 5);
    Edge.due("a TEST of it, not of the other PIECE", y.cost(1), 2);
    y.test(0, 1);
    y.clock(10);
    Edge.due("to the first TEST", y.cost(0), 5);
    y.test(0, 2);
    y.clock(30);
    Edge.due("to the first of two TESTS", y.cost(0), 5);
    y.page(0, 365, 0);
    Edge.due("1901 is not TOO YOUNG any more", y.cost(0), 7);
    y.page(0, 730, 0);
    Edge.due("none is any more", y.cost(0), 0);
    SafeVolumes z = new SafeVolumes();
    z.stuff(1950, 1);
    z.clock(7);
    Edge.piece(z, 0, 1);
    z.test(0, 0);
    z.clock(9);
    Edge.due("tested in the WEEK in which it CAME", z.cost(0), 0);
  }

  private static void cheapest() {
    Edge.says(21, "CHEAPEST; -2: none is TOO YOUNG; NONE without it.");
    Edge.range("cheapest(n)", Edge::everything, (x, n) -> x.cheapest(n), 0, 1, 2, -2, -1);
    Edge.says(21, "CHEAPEST: of STUFFS that are TOO YOUNG for it that with the fewest coins, of several the least.");
    SafeVolumes x = new SafeVolumes();
    int[] years = {1900, 1950, 1950, 1901, 1950, 1950, 1950, 1950, 1950, 1999};
    int[] coins = {1, 99, 5, 5, 5, 4, 7, 4, 98, 1};
    for (int i = 0; i < 10; i++) x.stuff(years[i], coins[i]);
    int[] in = {1, 2, 3, 0b110, 0b1110, 0b11100, 0b111110, 0b10100000, 1023, 0b100000010, 1 << 9};
    int[] due = {-2, 1, 1, 2, 2, 2, 5, 5, 9, 8, 9};
    for (int bits : in) Edge.piece(x, 0, bits);
    Edge.piece(x, 0, 0);
    for (int i = 0; i < in.length; i++) Edge.due("of the STUFFS " + in[i], x.cheapest(i), due[i]);
    Edge.due("no STUFF", x.cheapest(in.length), -2);
    int[][] three = {{5, 5, 5, 0}, {4, 5, 5, 0}, {5, 4, 5, 1}, {5, 5, 4, 2}, {5, 4, 4, 1}, {4, 5, 4, 0}, {1, 99, 2, 0}, {99, 98, 1, 2}};
    for (int[] c : three) {
      SafeVolumes y = new SafeVolumes();
      for (int i = 0; i < 3; i++) y.stuff(1999, c[i]);
      Edge.piece(y, 0, 7);
      Edge.due("for " + c[0] + ", " + c[1] + ", " + c[2], y.cheapest(0), c[3]);
    }
    x.page(4, 365, 0);
    Edge.due("still 2", x.cheapest(4), 2);
    x.page(5, 365, 0);
    Edge.due("2 of 2, 3, 4: 3 is not TOO YOUNG", x.cheapest(5), 2);
    x.page(3, 9999, 0);
    Edge.due("1950 is above 1927", x.cheapest(3), 2);
  }
}
