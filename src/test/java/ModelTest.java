import java.util.Map;
import java.util.TreeMap;

/** Long runs of drawn calls, every answer beside that of Model. */
public final class ModelTest {
  /** What an object answers behind so many calls is free. */
  private static final int PROMISED = 512;
  private static int wrong = 0;
  private static final Map<String, Map<Long, Integer>> SEEN = new TreeMap<>();
  private final Draws draws;
  private final SafeVolumes x = new SafeVolumes();
  private final Model m = new Model();
  private final int seed;
  private int calls = 0;
  private final int dayRange, placeRange, fewPieces;
  private final boolean wild;

  private ModelTest(int seed) {
    this.seed = seed;
    draws = new Draws(seed);
    dayRange = draws.one(12, 40, 400, 10000);
    placeRange = draws.one(2, 3, 100);
    fewPieces = draws.one(2, 4, 8, 90);
    wild = draws.once(4);
  }
  private void due(String call, long got, long want) {
    calls++;
    SEEN.computeIfAbsent(call.substring(0, call.indexOf('(')), k -> new TreeMap<>()).merge(want, 1, Integer::sum);
    if (got != want && wrong++ < 20) System.out.println("run " + seed + ", call " + calls + ": " + call + " answered " + got + ", due is " + want);
  }
  private static long num(boolean b) { return b ? 1 : 0; }

  /** A number from 0 to most, now and then one beside these. */
  private int upTo(int most) {
    if (draws.once(wild ? 12 : 60)) return draws.one(-1, most + 1, most + 2, Integer.MIN_VALUE, Integer.MAX_VALUE, -2, 31, 32, 64, draws.any());
    return draws.once(25) ? draws.one(0, Math.max(0, most)) : draws.below(Math.max(1, most + 1));
  }
  private int day() { return draws.once(30) ? upTo(9999) : Math.min(9999, (dayRange == 40 ? 9970 : 0) + upTo(dayRange - 1)); }
  private int place() { return draws.once(30) ? upTo(99) : upTo(placeRange - 1); }
  private int piece() { return upTo(m.count(4) - 1); }
  /** Mostly another piece than this one. */
  private int other(int piece) { int p = piece(); for (int i = 0; i < 9 && p == piece && !draws.once(20); i++) p = piece(); return p; }
  private int week() { return draws.below(3) > 0 ? Math.min(519, m.count(0) + draws.from(-3, 6)) : upTo(519); }
  private int seed() { return draws.once(20) ? draws.one(0, -1, Integer.MAX_VALUE, Integer.MIN_VALUE) : draws.any() & Integer.MAX_VALUE; }
  private int bits(int of) { int b = 0; for (int i = 0; i < of; i++) if (draws.once(2)) b |= 1 << i; return draws.once(40) ? draws.any() : draws.once(30) ? b | 1 << of : b; }

  private void text(boolean ofReader) {
    String t = ofReader ? new Texts(draws).reader() : new Texts(draws).maker();
    if (draws.below(4) > 0) {
      // mostly one that is right and speaks of what there is
      t = ofReader
          ? draws.one("yes 1000-wrong*100", "yes apart*3", "yes 900-apart-late*20 if own=0;yes 400+shared*50", "yes 0", "yes 1000", "yes 500+nowhere*pages if price>100 or week<3;yes volumes*20", "yes 700 if late>0 and not own=1;yes 300")
            + draws.one("", ";takes " + draws.from(1, 9), ";takes " + draws.from(1, 99) + ";coins " + draws.from(1, 9), ";coins 3", ";coins " + draws.from(1, 999))
          : draws.one("from 0;of 0;of 1", "from 1;from 0;from 1;slips 400;of 2;of 0;of 1;pace 2", "slips 1000;from 2;from 3", "pace 3;slips 300", "of 0;of 1;of 2;of 3;from 5;from 4;slips 500;from 3;pace 1", "pace 20;from 0;from 1;from 2;slips 200;of 1", "of 9;from 1");
    }
    int[] b = Texts.bytes(t);
    for (int i = 0; i < b.length; i += 20) {
      int a1 = Texts.four(b, i), a2 = Texts.four(b, i + 4), a3 = Texts.four(b, i + 8), a4 = Texts.four(b, i + 12), a5 = Texts.four(b, i + 16);
      due("feed()", x.feed(a1, a2, a3, a4, a5), m.feed(a1, a2, a3, a4, a5));
    }
    int n = draws.once(30) ? upTo(400) : b.length;
    due("end(" + n + ")", x.end(n), m.end(n));
    if (draws.once(20)) ofReader = !ofReader;
    if (ofReader) due("reader() [" + t + "]", x.reader(), m.reader()); else due("maker() [" + t + "]", x.maker(), m.maker());
    if (draws.once(5)) due("end(0)", x.end(0), m.end(0));
  }
  private void tell() {
    int a, b, c, d, e;
    int k = draws.below(23);
    // few pieces, so that there are days that they have with truth and sources
    if (k >= 9 && k <= 11 && m.count(4) >= fewPieces) k = 13;
    switch (k) {
      case 0: a = draws.once(3) ? week() : m.count(0) + draws.below(4); due("clock(" + a + ")", num(x.clock(a)), num(m.clock(a))); break;
      case 1: a = draws.once(10) ? draws.one(1799, 1800, 1999, 2000) : draws.once(2) ? draws.from(1895, 1930) : draws.from(1800, 1999); b = draws.once(10) ? draws.one(0, 1, 99, 100) : draws.from(1, 5); due("stuff(" + a + "," + b + ")", x.stuff(a, b), m.stuff(a, b)); break;
      case 2: case 3: case 4: a = day(); b = place(); due("truth(" + a + "," + b + ")", x.truth(a, b), m.truth(a, b)); break;
      case 5: case 6: case 7: case 8: a = upTo(5); b = day(); c = place(); due("fact(" + a + "," + b + "," + c + ")", x.fact(a, b, c), m.fact(a, b, c)); break;
      case 9: case 10: case 11: {
        int sort = draws.below(3) > 0 ? 0 : upTo(2);
        int[] h = new int[5];
        for (int i = 0; i < 5; i++) h[i] = wild ? upTo(99) : draws.below(40);
        int s = bits(m.count(1)), p = draws.once(2) ? draws.below(5) : upTo(9999);
        due("piece(" + sort + "," + s + "," + p + ")", x.piece(sort, h[0], h[1], h[2], h[3], h[4], s, p), m.piece(sort, h[0], h[1], h[2], h[3], h[4], s, p));
        break;
      }
      case 12: case 13: case 14: case 15: a = piece(); b = day(); c = place(); due("page(" + a + "," + b + "," + c + ")", x.page(a, b, c), m.page(a, b, c)); break;
      case 16: a = upTo(m.count(7) - 1); b = piece(); c = day(); d = draws.once(10) ? draws.one(0, 1, 60, 61) : draws.from(1, 40); e = seed(); due("make(" + a + "," + b + "," + c + "," + d + "," + e + ")", x.make(a, b, c, d, e), m.make(a, b, c, d, e)); break;
      case 17: a = day(); b = draws.once(6) ? day() : a + draws.below(60); c = upTo(999); d = week(); due("person(" + a + "," + b + "," + c + "," + d + ")", x.person(a, b, c, d), m.person(a, b, c, d)); break;
      case 18: a = upTo(m.count(10) - 1); due("ask(" + a + ")", num(x.ask(a)), num(m.ask(a))); break;
      default: text(draws.below(5) > 1); break;
    }
  }
  private void doing() {
    int a, b, c, d;
    switch (draws.below(12)) {
      case 0: case 1: case 2: case 3: case 4: a = upTo(m.count(6) - 1); b = piece(); c = other(b); d = seed(); due("look(" + a + "," + b + "," + c + "," + d + ")", x.look(a, b, c, d), m.look(a, b, c, d)); break;
      case 5: case 6: case 7: a = piece(); b = upTo(m.count(1) - 1); due("test(" + a + "," + b + ")", x.test(a, b), m.test(a, b)); break;
      case 8: case 9: a = piece(); b = week(); due("keep(" + a + "," + b + ")", x.keep(a, b), m.keep(a, b)); break;
      case 10: a = upTo(3); due("image(" + a + ")", x.image(a), m.image(a)); break;
      default: a = upTo(3); if (draws.once(3)) due("back(" + a + ")", x.back(a), m.back(a)); break;
    }
  }
  private void question() {
    int a, b, c, d;
    switch (draws.below(19)) {
      case 0: case 1: a = piece(); b = upTo(7); due("of(" + a + "," + b + ")", x.of(a, b), m.of(a, b)); break;
      case 2: a = piece(); b = upTo(5); due("shared(" + a + "," + b + ")", x.shared(a, b), m.shared(a, b)); break;
      case 3: a = upTo(m.count(6) - 1); b = piece(); c = other(b); due("chance(" + a + "," + b + "," + c + ")", x.chance(a, b, c), m.chance(a, b, c)); break;
      case 4: a = upTo(m.count(6) - 1); b = piece(); c = other(b); d = other(b); due("tells(" + a + "," + b + "," + c + "," + d + ")", x.tells(a, b, c, d), m.tells(a, b, c, d)); break;
      case 5: case 6: a = piece(); b = week(); due("stand(" + a + "," + b + ")", x.stand(a, b), m.stand(a, b)); break;
      case 7: a = piece(); due("cost(" + a + ")", x.cost(a), m.cost(a)); break;
      case 8: a = piece(); due("cheapest(" + a + ")", x.cheapest(a), m.cheapest(a)); break;
      case 9: a = piece(); due("likely(" + a + ")", x.likely(a), m.likely(a)); break;
      case 10: a = piece(); b = other(a); due("kin(" + a + "," + b + ")", x.kin(a, b), m.kin(a, b)); break;
      case 11: a = piece(); due("could(" + a + ")", x.could(a), m.could(a)); break;
      case 12: a = upTo(m.count(7) - 1); b = draws.once(3) ? week() : upTo(m.count(0)); due("outrun(" + a + "," + b + ")", x.outrun(a, b), m.outrun(a, b)); break;
      case 13: due("grows()", x.grows(), m.grows()); break;
      case 14: a = draws.once(20) ? draws.any() : bits(m.count(6)); b = piece(); c = other(b); for (d = draws.from(-1, 5); d <= 7; d += 2) due("soonest(" + a + "," + b + "," + c + "," + d + ")", x.soonest(a, b, c, d), m.soonest(a, b, c, d)); break;
      case 15: a = draws.once(3) ? upTo(9999) : upTo(30); b = piece(); c = other(b); due("surest(" + a + "," + b + "," + c + ")", x.surest(a, b, c), m.surest(a, b, c)); break;
      case 16: a = piece(); b = week(); due("unasked(" + a + "," + b + ")", x.unasked(a, b), m.unasked(a, b)); break;
      case 17: a = upTo(m.count(10) - 1); b = week(); due("gain(" + a + "," + b + ")", x.gain(a, b), m.gain(a, b)); break;
      default: a = upTo(11); due("count(" + a + ")", x.count(a), m.count(a)); break;
    }
  }
  private void run() {
    int all = draws.one(100, 250, 400, 450, 450);
    int telling = draws.one(3, 5, 8);
    while (calls < all && wrong < 20) {
      int k = draws.below(10);
      if (k < telling) tell(); else if (draws.once(3)) doing(); else question();
    }
    while (calls < PROMISED - 30) closing(draws.from(-1, m.count(4)));
    for (int i = -1; i <= 12; i++) due("count(" + i + ")", x.count(i), m.count(i));
    if (calls > PROMISED) throw new IllegalStateException(calls + " calls of one object");
  }
  private void closing(int p) {
    for (int w = 0; w <= 8; w++) due("of(" + p + "," + w + ")", x.of(p, w), m.of(p, w));
    int week = week();
    due("stand(" + p + "," + week + ")", x.stand(p, week), m.stand(p, week));
    due("cost(" + p + ")", x.cost(p), m.cost(p));
    due("could(" + p + ")", x.could(p), m.could(p));
    due("likely(" + p + ")", x.likely(p), m.likely(p));
  }
  public static void main(String[] args) {
    int runs = args.length > 1 ? Integer.parseInt(args[1]) : 800;
    for (int seed = 1; seed <= runs && wrong < 20; seed++) new ModelTest(seed).run();
    if (args.length > 1) for (String k : SEEN.keySet()) {
      Map<Long, Integer> s = SEEN.get(k);
      System.out.println(k + ": " + s.size() + " " + (s.size() < 30 ? s : s.keySet().stream().limit(12).toList() + " .. none " + s.getOrDefault(-1L, 0) + " of " + s.values().stream().mapToInt(i -> i).sum()));
    }
    System.out.println(wrong == 0 ? "all answers are as due" : wrong + " answers are not as due");
    if (wrong != 0) System.exit(1);
  }
}
