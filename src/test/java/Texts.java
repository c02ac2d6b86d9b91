/** Drawn texts: right ones, ones at the edges of what may stand, and broken ones. */
final class Texts {
  private final Draws draws;
  private final StringBuilder out = new StringBuilder();
  private int budget;
  Texts(Draws draws) { this.draws = draws; }

  String reader() {
    out.setLength(0);
    budget = draws.one(5, 15, 40, 80);
    int clauses = draws.once(6) ? draws.from(8, 14) : draws.from(1, 4);
    boolean short1 = clauses > 6;
    boolean takes = false, coins = false;
    for (int i = 0; i < clauses; i++) {
      if (i > 0) put(";");
      int k = draws.below(6);
      if (k == 0 && (!takes || draws.once(8))) { takes = true; word("takes"); put("" + draws.from(draws.once(9) ? 0 : 1, draws.once(9) ? 100 : 99)); }
      else if (k == 1 && (!coins || draws.once(8))) { coins = true; word("coins"); put("" + draws.one(0, 1, 1, 2, 7, 40, 300, 999, 1000)); }
      else { word("yes"); sum(short1 ? 1 : 3); if (draws.below(3) > 0) { word("if"); test(short1 ? 1 : draws.from(1, 3)); } }
    }
    return mended();
  }
  String maker() {
    out.setLength(0);
    budget = 10;
    int clauses = draws.once(6) ? draws.from(8, 14) : draws.from(1, 6);
    boolean pace = false, slips = false;
    for (int i = 0; i < clauses; i++) {
      if (i > 0) put(";");
      int k = draws.below(6);
      if (k == 0 && (!pace || draws.once(8))) { pace = true; word("pace"); put("" + draws.one(0, 1, 1, 2, 3, 5, 9, 20, 99, 100)); }
      else if (k == 1 && (!slips || draws.once(8))) { slips = true; word("slips"); put("" + draws.one(0, 1, 100, 300, 500, 999, 1000, 1001)); }
      else if (k < 4) { word("from"); put("" + draws.from(0, draws.once(30) ? 6 : 5)); }
      else { word("of"); put("" + draws.from(0, draws.once(30) ? 11 : draws.one(1, 2, 9))); }
    }
    return mended();
  }
  /** One byte more, less or another, now and then; never too long for the TAPE. */
  private String mended() {
    String t = out.toString();
    if (draws.once(3)) {
      int at = draws.below(t.length() + 1);
      String more = draws.one(" ", ";", "*", "+", "[", "]", "=", "<", "9", "0", "a", "not ", " or", "and ", "if ", "yes", "-", "(", "\u00e9", "A", "\u0000", "123456", " takes 1", ";");
      int less = draws.below(3);
      t = t.substring(0, at) + (draws.once(4) ? "" : more) + t.substring(Math.min(t.length(), at + less));
    }
    if (draws.once(12)) t = t.substring(0, draws.below(t.length() + 1));
    return t.length() > 400 ? t.substring(0, 400) : t;
  }
  private void put(String s) {
    if (draws.once(6)) out.append(draws.one(" ", "  "));
    out.append(s);
  }
  private void word(String s) {
    if (out.length() > 0 && out.charAt(out.length() - 1) >= 'a' && out.charAt(out.length() - 1) <= 'z') out.append(' ');
    put(s);
  }
  private void value() {
    budget--;
    if (draws.once(2)) word(draws.once(60) ? "age" : ModelText.VALUES[draws.below(10)]);
    else {
      if (out.length() > 0 && out.charAt(out.length() - 1) >= '0' && out.charAt(out.length() - 1) <= '9') out.append(' ');
      put(draws.one("0", "1", "2", "3", "10", "25", "40", "100", "300", "500", "700", "900", "1000", "1905", "99999", "00012", draws.once(40) ? "100000" : "5"));
    }
  }
  private void sum(int most) {
    value();
    for (int i = draws.below(most); i > 0 && budget > 0; i--) { put(draws.one("+", "-", "-", "*")); value(); }
  }
  private void test(int depth) {
    fact(depth);
    for (int i = draws.below(3); i > 0 && budget > 0; i--) { word(draws.one("and", "or")); fact(depth); }
  }
  private void fact(int depth) {
    int k = draws.below(8);
    if (depth > 0 && k < 2) {
      int times = draws.once(20) ? draws.from(8, 12) : 1;
      StringBuilder closing = new StringBuilder();
      for (int i = 0; i < times; i++) {
        if (draws.once(2)) word("not");
        else { put("["); closing.append("]"); }
      }
      if (closing.length() > 0) test(depth - 1); else fact(depth - 1);
      out.append(closing);
      return;
    }
    sum(draws.from(1, 3));
    put(draws.one("<", "<=", "=", ">=", ">"));
    sum(draws.from(1, 2));
  }

  /** What feed is given for the bytes from one place on. */
  static int four(int[] bytes, int at) {
    int n = 0;
    for (int i = at; i < at + 4; i++) n = n << 8 | (i < bytes.length ? bytes[i] & 255 : 0);
    return n;
  }
  static int[] bytes(String text) {
    int[] b = new int[text.length()];
    for (int i = 0; i < b.length; i++) b[i] = text.charAt(i) & 255;
    return b;
  }
  /** Puts a text on an empty TAPE. */
  static void feed(SafeVolumes x, String text) {
    int[] b = bytes(text);
    for (int i = 0; i < b.length; i += 20) x.feed(four(b, i), four(b, i + 4), four(b, i + 8), four(b, i + 12), four(b, i + 16));
    x.end(b.length);
  }
  static int reader(SafeVolumes x, String text) { feed(x, text); return x.reader(); }
  static int maker(SafeVolumes x, String text) { feed(x, text); return x.maker(); }
}
