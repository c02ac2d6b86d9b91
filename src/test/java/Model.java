import java.math.BigInteger;
import java.util.ArrayList;
import java.util.List;
import java.util.Map;
import java.util.TreeMap;

/** The document once more, slowly: lists, maps, all orders and all sets. */
final class Model {
  private static final class Piece {
    int sort, price, came, stuffs, kept; int[] hand; final TreeMap<Integer, Integer> pages = new TreeMap<>();
    Piece copy() { Piece p = new Piece(); p.sort = sort; p.price = price; p.came = came; p.stuffs = stuffs; p.kept = kept; p.hand = hand.clone(); p.pages.putAll(pages); return p; }
  }
  private static final class State {
    int now = 0;
    final List<int[]> stuffs = new ArrayList<>(), looks = new ArrayList<>(), tests = new ArrayList<>(), people = new ArrayList<>();
    final Map<Integer, Integer> truth = new TreeMap<>();
    final List<Map<Integer, Integer>> facts = new ArrayList<>();
    final List<Piece> pieces = new ArrayList<>();
    State() { for (int i = 0; i < 6; i++) facts.add(new TreeMap<>()); }
    State copy() {
      State s = new State();
      s.now = now;
      for (int[] r : stuffs) s.stuffs.add(r.clone());
      for (int[] r : looks) s.looks.add(r.clone());
      for (int[] r : tests) s.tests.add(r.clone());
      for (int[] r : people) s.people.add(r.clone());
      s.truth.putAll(truth);
      for (int i = 0; i < 6; i++) s.facts.get(i).putAll(facts.get(i));
      for (Piece p : pieces) s.pieces.add(p.copy());
      return s;
    }
    int factCount() { int n = 0; for (Map<Integer, Integer> m : facts) n += m.size(); return n; }
    int pageCount() { int n = 0; for (Piece p : pieces) n += p.pages.size(); return n; }
  }

  private State s = new State();
  private final State[] images = new State[4];
  private final List<Integer> tape = new ArrayList<>();
  private final List<ModelText> readers = new ArrayList<>(), makers = new ArrayList<>();

  private static boolean in(int x, int a, int b) { return x >= a && x <= b; }
  private boolean is(int p) { return in(p, 0, s.pieces.size() - 1); }
  private static boolean week(int w) { return in(w, 0, 519); }

  boolean clock(int week) { if (!week(week) || week < s.now) return false; s.now = week; return true; }
  int stuff(int year, int coins) {
    if (s.stuffs.size() == 10 || !in(year, 1800, 1999) || !in(coins, 1, 99)) return -1;
    s.stuffs.add(new int[] {year, coins});
    return s.stuffs.size() - 1;
  }
  int truth(int day, int place) {
    if (s.truth.size() == 200 || s.truth.containsKey(day) || !in(day, 0, 9999) || !in(place, 0, 99)) return -1;
    s.truth.put(day, place);
    return s.truth.size();
  }
  int fact(int source, int day, int place) {
    if (s.factCount() == 300 || !in(source, 0, 5) || !in(day, 0, 9999) || !in(place, 0, 99) || s.facts.get(source).containsKey(day)) return -1;
    s.facts.get(source).put(day, place);
    return s.factCount();
  }
  int piece(int sort, int a, int b, int c, int d, int e, int stuffs, int price) {
    if (s.pieces.size() == 90 || !in(sort, 0, 2) || !in(price, 0, 9999)) return -1;
    for (int h : new int[] {a, b, c, d, e}) if (!in(h, 0, 99)) return -1;
    for (int i = 0; i < 32; i++) if ((stuffs >>> i & 1) == 1 && i >= s.stuffs.size()) return -1;
    Piece p = new Piece();
    p.sort = sort; p.price = price; p.stuffs = stuffs; p.came = s.now; p.hand = new int[] {a, b, c, d, e};
    s.pieces.add(p);
    return s.pieces.size() - 1;
  }
  int page(int piece, int day, int place) {
    if (s.pageCount() == 400 || !is(piece) || !in(day, 0, 9999) || !in(place, 0, 99) || s.pieces.get(piece).pages.containsKey(day)) return -1;
    s.pieces.get(piece).pages.put(day, place);
    return s.pageCount();
  }

  private boolean wrong(int day, int place) { return s.truth.containsKey(day) && s.truth.get(day) != place; }
  private boolean sharedWith(int source, int day, int place) { return wrong(day, place) && s.facts.get(source).getOrDefault(day, -1) == place; }
  private int wrongs(Piece p) { int n = 0; for (int d : p.pages.keySet()) if (wrong(d, p.pages.get(d))) n++; return n; }
  private int shareds(Piece p) {
    int n = 0;
    for (int d : p.pages.keySet()) { boolean any = false; for (int i = 0; i < 6; i++) any |= sharedWith(i, d, p.pages.get(d)); if (any) n++; }
    return n;
  }
  private int nowheres(Piece p) {
    int n = 0;
    for (int d : p.pages.keySet()) { boolean any = s.truth.containsKey(d); for (int i = 0; i < 6; i++) any |= s.facts.get(i).containsKey(d); if (!any) n++; }
    return n;
  }
  private int age(Piece p) { int max = 0; for (int d : p.pages.keySet()) max = Math.max(max, d); return 1900 + max / 365; }
  private boolean tooYoung(Piece p, int stuff) { return (p.stuffs >> stuff & 1) == 1 && s.stuffs.get(stuff)[0] > age(p); }
  private int young(Piece p) { int b = 0; for (int i = 0; i < s.stuffs.size(); i++) if (tooYoung(p, i)) b += 1 << i; return b; }
  private int volumes() { int n = 0; for (Piece p : s.pieces) if (p.sort == 0) n++; return n; }

  int of(int piece, int what) {
    if (!is(piece)) return -1;
    Piece p = s.pieces.get(piece);
    switch (what) {
      case 0: return p.pages.size();
      case 1: return wrongs(p);
      case 2: return shareds(p);
      case 3: return nowheres(p);
      case 4: return age(p);
      case 5: return p.came;
      case 6: return p.stuffs;
      case 7: return young(p);
      default: return -1;
    }
  }
  int shared(int piece, int source) {
    if (!is(piece) || !in(source, 0, 5)) return -1;
    int n = 0;
    for (Map.Entry<Integer, Integer> e : s.pieces.get(piece).pages.entrySet()) if (sharedWith(source, e.getKey(), e.getValue())) n++;
    return n;
  }
  int feed(int a, int b, int c, int d, int e) {
    if (tape.size() > 380) return -1;
    for (int n : new int[] {a, b, c, d, e}) { tape.add(n >>> 24); tape.add(n >>> 16 & 255); tape.add(n >>> 8 & 255); tape.add(n & 255); }
    return tape.size();
  }
  int end(int n) { if (!in(n, 0, tape.size())) return -1; while (tape.size() > n) tape.remove(tape.size() - 1); return n; }
  private int told(List<ModelText> all, int most, boolean ofReader) {
    if (all.size() == most) return -1;
    int[] bytes = new int[tape.size()];
    for (int i = 0; i < bytes.length; i++) bytes[i] = tape.get(i);
    tape.clear();
    ModelText t = new ModelText(bytes, ofReader);
    if (t.fault != 0) return -2 - t.fault;
    all.add(t);
    return all.size() - 1;
  }
  int reader() { return told(readers, 8, true); }
  int maker() { return told(makers, 6, false); }

  private int chanceOf(ModelText r, int piece, int beside) {
    Piece p = s.pieces.get(piece), o = s.pieces.get(beside);
    long[] w = new long[10];
    for (int i = 0; i < 5; i++) w[0] += Math.abs(p.hand[i] - o.hand[i]);
    w[1] = o.sort == 1 ? 0 : 1;
    int greatest = -1;
    for (int i = 0; i < s.stuffs.size(); i++) if ((p.stuffs >> i & 1) == 1) greatest = Math.max(greatest, s.stuffs.get(i)[0]);
    w[2] = greatest < 0 ? 0 : Math.max(0, greatest - age(p));
    w[3] = wrongs(p); w[4] = shareds(p); w[5] = nowheres(p); w[6] = p.pages.size(); w[7] = p.price; w[8] = s.now; w[9] = volumes();
    return r.chance(w);
  }
  int chance(int reader, int piece, int beside) {
    if (!in(reader, 0, readers.size() - 1) || !is(piece) || !is(beside) || piece == beside) return -1;
    return chanceOf(readers.get(reader), piece, beside);
  }
  int tells(int reader, int piece, int other, int beside) {
    if (!in(reader, 0, readers.size() - 1) || !is(piece) || !is(other) || !is(beside)) return -2000;
    if (piece == other || piece == beside || other == beside) return -2000;
    return chance(reader, piece, beside) - chance(reader, other, beside);
  }
  private static int next(long x) { return (int) ((x * 1103515245L + 12345L) % 2147483648L); }
  int look(int reader, int piece, int beside, int seed) {
    int c = chance(reader, piece, beside);
    if (c < 0 || s.looks.size() == 200 || seed < 0 || s.now < s.pieces.get(piece).kept) return -1;
    int yes = next(seed) / 65536 % 1000 < c ? 1 : 0;
    s.looks.add(new int[] {piece, beside, Math.min(519, s.now + readers.get(reader).takes), yes});
    return yes;
  }
  int test(int piece, int stuff) {
    if (!is(piece) || !in(stuff, 0, s.stuffs.size() - 1) || s.tests.size() == 200) return -1;
    Piece p = s.pieces.get(piece);
    if ((p.stuffs >> stuff & 1) == 0 || s.now < p.kept) return -1;
    s.tests.add(new int[] {piece, stuff, s.now});
    return tooYoung(p, stuff) ? 1 : 0;
  }
  int keep(int piece, int till) { if (!is(piece) || !week(till)) return -1; Piece p = s.pieces.get(piece); int was = p.kept; p.kept = till; return was; }
  int stand(int piece, int week) {
    if (!is(piece) || !week(week)) return -1;
    boolean three = false, two = false, one = false;
    for (int[] t : s.tests) three |= t[0] == piece && t[2] <= week && tooYoung(s.pieces.get(piece), t[1]);
    for (int[] l : s.looks) {
      if (l[0] != piece || l[2] > week || l[3] == 1) continue;
      one = true;
      two |= s.pieces.get(l[1]).sort == 1;
    }
    return three ? 3 : two ? 2 : one ? 1 : 0;
  }
  int cost(int piece) {
    if (!is(piece)) return -1;
    Piece p = s.pieces.get(piece);
    if (young(p) == 0) return 0;
    int first = s.now;
    for (int[] t : s.tests) if (t[0] == piece && tooYoung(p, t[1])) first = Math.min(first, t[2]);
    return first - p.came;
  }
  int cheapest(int piece) {
    if (!is(piece)) return -1;
    int best = -2, coins = 1000;
    for (int i = 0; i < s.stuffs.size(); i++) if (tooYoung(s.pieces.get(piece), i) && s.stuffs.get(i)[1] < coins) { best = i; coins = s.stuffs.get(i)[1]; }
    return best;
  }
  int likely(int piece) {
    if (!is(piece)) return -1;
    int best = -2;
    for (int i = 5; i >= 0; i--) if (shared(piece, i) > 0 && (best < 0 || shared(piece, i) >= shared(piece, best))) best = i;
    return best;
  }
  int kin(int a, int b) {
    if (!is(a) || !is(b) || a == b) return -1;
    int n = 0;
    for (int i = 0; i < 6; i++) if (shared(a, i) > 0 && shared(b, i) > 0) n++;
    return n;
  }
  int could(int piece) {
    if (!is(piece)) return -1;
    Piece p = s.pieces.get(piece);
    int bits = 0;
    for (int m = 0; m < makers.size(); m++) {
      boolean can = true;
      for (int i = 0; i < 10; i++) if ((p.stuffs >> i & 1) == 1 && (makers.get(m).of >> i & 1) == 0) can = false;
      for (int d : p.pages.keySet()) {
        boolean has = s.truth.getOrDefault(d, -1).equals(p.pages.get(d));
        for (int source : makers.get(m).from) has |= s.facts.get(source).getOrDefault(d, -1).equals(p.pages.get(d));
        can &= has;
      }
      if (can) bits |= 1 << m;
    }
    return bits;
  }
  int outrun(int maker, int from) {
    if (!in(maker, 0, makers.size() - 1) || !in(from, 0, s.now)) return -1;
    for (int w = from; w <= s.now; w++) {
      int n = 0;
      for (Piece p : s.pieces) if (p.sort == 0 && in(p.came, from, w)) n += p.pages.size();
      if (n > makers.get(maker).pace * (w - from + 1)) return w;
    }
    return -2;
  }
  int grows() {
    List<Piece> v = new ArrayList<>();
    for (Piece p : s.pieces) if (p.sort == 0) v.add(p);
    int sum = 0;
    for (int i = 1; i < v.size(); i++) {
      for (int j = 1; j < v.size(); j++) {
        int gi = v.get(i).came - v.get(i - 1).came, gj = v.get(j).came - v.get(j - 1).came;
        if (v.get(i - 1).price > v.get(j - 1).price) { if (gi < gj) sum++; if (gi > gj) sum--; }
      }
    }
    return sum;
  }
  int make(int maker, int piece, int day, int n, int seed) {
    if (!in(maker, 0, makers.size() - 1) || !is(piece) || !in(day, 0, 9999) || !in(n, 1, 60) || seed < 0) return -1;
    ModelText m = makers.get(maker);
    Piece p = s.pieces.get(piece);
    for (int i = s.stuffs.size(); i < 10; i++) if ((m.of >> i & 1) == 1) return -1;
    Map<Integer, Integer> more = new TreeMap<>();
    int x = seed;
    for (int d = day; d < day + n; d++) {
      x = next(x);
      boolean slip = x / 65536 % 1000 < m.slips;
      x = next(x);
      Integer place = null;
      if (slip) {
        if (!m.from.isEmpty()) place = s.facts.get(m.from.get(x / 65536 % m.from.size())).get(d);
      } else {
        place = s.truth.get(d);
        for (int source : m.from) if (place == null) place = s.facts.get(source).get(d);
      }
      if (place != null && d <= 9999 && !p.pages.containsKey(d)) more.put(d, place);
    }
    if (s.pageCount() + more.size() > 400) return -1;
    p.pages.putAll(more);
    p.stuffs |= m.of;
    return more.size();
  }

  private long bestWait;
  private List<Integer> bestOrder;
  private void orders(List<Integer> ahead, List<Integer> left, int piece, int beside) {
    if (left.isEmpty()) {
      BigInteger wait = BigInteger.ZERO, thousand = BigInteger.valueOf(1000);
      for (int i = 0; i < ahead.size(); i++) {
        BigInteger w = BigInteger.valueOf(readers.get(ahead.get(i)).takes);
        for (int j = 0; j < i; j++) w = w.multiply(BigInteger.valueOf(chance(ahead.get(j), piece, beside)));
        wait = wait.add(w.multiply(thousand.pow(ahead.size() - 1 - i)));
      }
      if (bestOrder == null || wait.longValueExact() < bestWait) { bestWait = wait.longValueExact(); bestOrder = new ArrayList<>(ahead); }
      return;
    }
    for (Integer r : left) {
      List<Integer> a = new ArrayList<>(ahead), l = new ArrayList<>(left);
      a.add(r);
      l.remove(r);
      orders(a, l, piece, beside);
    }
  }
  long soonest(int set, int piece, int beside, int what) {
    if (set < 1 || !is(piece) || !is(beside) || piece == beside || !in(what, 0, 6)) return -1;
    List<Integer> all = new ArrayList<>();
    for (int i = 0; i < 31; i++) if ((set >> i & 1) == 1) all.add(i);
    if (all.size() > 6 || all.get(all.size() - 1) >= readers.size()) return -1;
    bestOrder = null;
    orders(new ArrayList<>(), all, piece, beside);
    return what == 6 ? bestWait : what < all.size() ? bestOrder.get(what) : -1;
  }
  int surest(int coins, int piece, int beside) {
    if (!in(coins, 0, 9999) || !is(piece) || !is(beside) || piece == beside) return -1;
    int best = -1, bestCoins = 0;
    BigInteger bestNum = null, bestDen = null;
    for (int set = 0; set < 64; set++) {
      if (set >> Math.min(6, readers.size()) != 0) continue;
      int price = 0;
      BigInteger num = BigInteger.ONE, den = BigInteger.ONE;
      for (int i = 0; i < 6; i++) {
        if ((set >> i & 1) == 0) continue;
        price += readers.get(i).coins;
        num = num.multiply(BigInteger.valueOf(chance(i, piece, beside)));
        den = den.multiply(BigInteger.valueOf(1000));
      }
      if (price > coins) continue;
      int c = best < 0 ? -1 : num.multiply(bestDen).compareTo(bestNum.multiply(den));
      if (c < 0 || c == 0 && price < bestCoins) { best = set; bestCoins = price; bestNum = num; bestDen = den; }
    }
    return best;
  }
  int person(int from, int to, int coins, int week) {
    if (s.people.size() == 8 || !in(from, 0, 9999) || !in(to, 0, 9999) || to < from || !in(coins, 0, 999) || !week(week)) return -1;
    s.people.add(new int[] {from, to, coins, week, 9999});
    return s.people.size() - 1;
  }
  boolean ask(int person) {
    if (!in(person, 0, s.people.size() - 1) || s.people.get(person)[4] != 9999) return false;
    s.people.get(person)[4] = s.now;
    return true;
  }
  int unasked(int piece, int week) {
    if (!is(piece) || !week(week)) return -1;
    int bits = 0;
    for (int i = 0; i < s.people.size(); i++) {
      int[] p = s.people.get(i);
      boolean knew = false;
      for (Map.Entry<Integer, Integer> e : s.pieces.get(piece).pages.entrySet()) knew |= wrong(e.getKey(), e.getValue()) && in(e.getKey(), p[0], p[1]);
      if (knew && p[4] > week) bits |= 1 << i;
    }
    return bits;
  }
  int gain(int person, int week) {
    if (!in(person, 0, s.people.size() - 1) || !week(week)) return -1;
    int[] p = s.people.get(person);
    int sum = 0;
    for (Piece v : s.pieces) if (v.sort == 0 && v.came >= p[3] && v.came <= week) sum += p[2];
    return sum;
  }
  int count(int what) {
    int[] all = {s.now, s.stuffs.size(), s.truth.size(), s.factCount(), s.pieces.size(), s.pageCount(), readers.size(), makers.size(), s.looks.size(), s.tests.size(), s.people.size(), tape.size()};
    return in(what, 0, 11) ? all[what] : -1;
  }
  int image(int k) { if (!in(k, 0, 3)) return -1; images[k] = s.copy(); return s.now; }
  int back(int k) { if (!in(k, 0, 3) || images[k] == null) return -1; s = images[k].copy(); return s.now; }
}
