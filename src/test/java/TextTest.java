/** Texts of READERS and MAKERS beside those read by descent: numbers, FAULTS, CHANCES. */
public final class TextTest {
  public static void main(String[] args) {
    int wrong = 0, faults = 0, fine = 0;
    int[] why = new int[8];
    java.util.Set<String> seen = new java.util.HashSet<>();
    for (int seed = 1; seed <= 60000 && wrong < 5; seed++) {
      Draws draws = new Draws(seed);
      Texts texts = new Texts(draws);
      SafeVolumes x = new SafeVolumes();
      boolean ofReader = draws.below(4) > 0;
      String text = ofReader ? texts.reader() : texts.maker();
      ModelText model = new ModelText(Texts.bytes(text), ofReader);
      long got = ofReader ? Texts.reader(x, text) : Texts.maker(x, text);
      long want = model.fault != 0 ? -2 - model.fault : 0;
      if (got != want || x.count(11) != 0) { wrong++; System.out.println("[" + text + "] answered " + got + ", due is " + want); }
      if (model.fault != 0) { faults++; why[(model.fault - 1) % 8]++; } else fine++;
      if (model.fault == 0 && ofReader) {
        for (int i = 0; i < 4; i++) {
          // pieces whose words are small and can be told by hand: apart, own, price, week, volumes
          SafeVolumes y = new SafeVolumes();
          Texts.reader(y, text);
          int week = draws.below(9), price = draws.from(0, 40), hand = draws.below(30), other = draws.from(0, 2);
          y.clock(week);
          y.piece(0, hand, 0, 0, 0, 5, 0, price);
          y.piece(other, 0, 0, 0, 0, 0, 0, 0);
          long[] words = {hand + 5, other == 1 ? 0 : 1, 0, 0, 0, 0, 0, price, week, other == 0 ? 2 : 1};
          int due = model.chance(words), is = y.chance(0, 0, 1);
          seen.add("" + is);
          if (due != is) { wrong++; System.out.println("chance by [" + text + "] answered " + is + ", due is " + due); }
        }
      }
    }
    for (int i = 0; i < 5; i++) if (why[i] < 50) { wrong++; System.out.println("too few texts with a fault " + i + ": " + why[i]); }
    if (fine < 10000 || faults < 10000 || seen.size() < 200) { wrong++; System.out.println("too few: " + fine + " right texts, " + faults + " faults, " + seen.size() + " chances"); }
    System.out.println(wrong == 0 ? "all texts are as due" : wrong + " are not as due");
    if (wrong != 0) System.exit(1);
  }
}
