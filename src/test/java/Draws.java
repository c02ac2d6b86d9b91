/** Drawn numbers, the same ones for the same seed. */
final class Draws {
  private long x;
  Draws(long seed) { x = seed * 0x9E3779B97F4A7C15L + 0x1234567L; for (int i = 0; i < 4; i++) next(); }
  private long next() { x ^= x << 13; x ^= x >>> 7; x ^= x << 17; return x; }
  /** From 0 to n - 1. */
  int below(int n) { return (int) Math.floorMod(next() >>> 11, (long) n); }
  int from(int least, int most) { return least + below(most - least + 1); }
  boolean once(int in) { return below(in) == 0; }
  int any() { return (int) (next() >>> 16); }
  int one(int... of) { return of[below(of.length)]; }
  String one(String... of) { return of[below(of.length)]; }
}
