/** The edges of promises 30 to 36: people, what they knew and gained, counts, images. */
public final class EdgesOfPeopleTest {
  private static final int LAST = 9999;

  public static void main(String[] args) {
    person();
    eightPeople();
    ask();
    unaskedTakes();
    unaskedByDays();
    unaskedByWeeks();
    gainTakes();
    gainByWeeks();
    count();
    image();
    imageOfNothing();
    back();
    whatAnImageHolds();
    whatStays();
    fullAndBack();
    Edge.finish(30, 36);
  }

  private static void person() {
    Edge.says(30, "A PERSON who KNEW DAYS from one to another one (not ahead of it), GAINS coins from a WEEK on: the number; NONE: there are 8, or something is not as told.");
    Edge.range("person(n,9999,0,0)", Edge.NOTHING, (x, n) -> x.person(n, LAST, 0, 0), 0, 0, LAST, 0, -1);
    Edge.range("person(0,n,0,0)", Edge.NOTHING, (x, n) -> x.person(0, n, 0, 0), 0, 0, LAST, 0, -1);
    Edge.range("person(n,500,0,0)", Edge::everything, (x, n) -> x.person(n, 500, 0, 0), 0, 2, 500, 2, -1);
    Edge.range("person(500,n,0,0)", Edge::everything, (x, n) -> x.person(500, n, 0, 0), 500, 2, LAST, 2, -1);
    Edge.refused("person(9999,0,0,0)", Edge::everything, x -> x.person(LAST, 0, 0, 0));
    Edge.refused("person(-1,-1,0,0)", Edge::everything, x -> x.person(-1, -1, 0, 0));
    Edge.refused("person(10000,10000,0,0)", Edge::everything, x -> x.person(10000, 10000, 0, 0));
    Edge.says(30, "GAINS coins (0 to 999)");
    Edge.range("person(0,0,n,0)", Edge.NOTHING, (x, n) -> x.person(0, 0, n, 0), 0, 0, 999, 0, -1);
    Edge.range("person(0,0,n,0) behind others", Edge::everything, (x, n) -> x.person(0, 0, n, 0), 0, 2, 999, 2, -1);
    Edge.says(30, "WEEKS 0 to 519");
    Edge.range("person(0,0,0,n)", Edge.NOTHING, (x, n) -> x.person(0, 0, 0, n), 0, 0, 519, 0, -1);
    Edge.range("person(0,0,0,n) in 6", Edge::everything, (x, n) -> x.person(0, 0, 0, n), 0, 2, 519, 2, -1);
  }

  private static void eightPeople() {
    Edge.says(30, "PEOPLE 0 to 7");
    SafeVolumes x = new SafeVolumes();
    for (int i = 0; i < 8; i++) {
      Edge.due("a refused one takes no number", x.person(1, 0, 0, 0), -1);
      Edge.due("person", x.person(0, 0, i, 0), i);
    }
    Edge.due("a ninth", x.person(0, 0, 0, 0), -1);
    Edge.due("PEOPLE", x.count(10), 8);
    Edge.volume(x);
    for (int i = 0; i < 8; i++) Edge.due("each gains his own", x.gain(i, 0), i);
    Edge.due("no PERSON 8", x.gain(8, 0), -1);
    Edge.refused("a ninth", y -> { Edge.everything(y); for (int i = 0; i < 6; i++) y.person(i, LAST, i, i); }, y -> y.person(0, LAST, 999, 0));
  }

  private static void ask() {
    Edge.says(31, "A PERSON is ASKED: true; false, and nothing happens, without it, or if ASKED already.");
    for (int n : new int[] {-1, 2, 8, Integer.MAX_VALUE, Integer.MIN_VALUE}) Edge.refused("ask(" + n + ")", Edge::everything, x -> x.ask(n) ? 1 : 0, 0);
    Edge.refused("asked already", Edge::everything, x -> x.ask(1) ? 1 : 0, 0);
    Edge.refused("ask(0) without PEOPLE", Edge.NOTHING, x -> x.ask(0) ? 1 : 0, 0);
    SafeVolumes x = new SafeVolumes();
    for (int i = 0; i < 8; i++) x.person(0, LAST, 0, 0);
    Edge.volume(x);
    x.page(0, 5, 1);
    x.truth(5, 2);
    Edge.due("the first", x.ask(0), true);
    x.clock(3);
    Edge.due("the last", x.ask(7), true);
    x.clock(9);
    Edge.due("the first again", x.ask(0), false);
    Edge.due("the last again", x.ask(7), false);
    Edge.due("the first was ASKED in 0", x.unasked(0, 0), 0b11111110);
    Edge.due("the last not up to 2", x.unasked(0, 2), 0b11111110);
    Edge.due("but in 3, and not in 9 anew", x.unasked(0, 3), 0b01111110);
  }

  private static void unaskedTakes() {
    Edge.says(32, "UNASKED, as bits; NONE without these.");
    Edge.range("unasked(2,n)", Edge::everything, (x, n) -> x.unasked(2, n), 0, 3, 519, 1, -1);
    Edge.range("unasked(n,3)", Edge::everything, (x, n) -> x.unasked(n, 3), 0, 3, 2, 3, -1);
    Edge.refused("without PIECES", Edge.NOTHING, x -> x.unasked(0, 0));
    SafeVolumes x = new SafeVolumes();
    Edge.volume(x);
    x.page(0, 5, 1);
    x.truth(5, 2);
    Edge.due("without PEOPLE", x.unasked(0, 519), 0);
    for (int i = 0; i < 8; i++) x.person(5, 5, 0, 0);
    Edge.due("all eight", x.unasked(0, 519), 255);
  }

  private static void unaskedByDays() {
    Edge.says(32, "PEOPLE who KNEW the DAY of a WRONG PAGE of it");
    int[][] knew = {{0, LAST}, {50, 50}, {0, 50}, {50, LAST}, {0, 49}, {51, LAST}, {49, 51}, {51, 51}};
    SafeVolumes x = new SafeVolumes();
    for (int[] days : knew) x.person(days[0], days[1], 0, 0);
    Edge.pieces(x, 2);
    x.page(0, 50, 1);
    Edge.due("not WRONG: TRUTH has not the DAY", x.unasked(0, 519), 0);
    x.truth(50, 2);
    Edge.due("WRONG", x.unasked(0, 519), 0b01001111);
    Edge.due("the other PIECE", x.unasked(1, 519), 0);
    x.page(0, 51, 7);
    x.truth(51, 7);
    Edge.due("of 51 it has TRUTH's PLACE", x.unasked(0, 519), 0b01001111);
    x.page(1, LAST, 1);
    x.page(1, 0, 1);
    x.truth(LAST, 2);
    Edge.due("the last DAY", x.unasked(1, 519), 0b00101001);
    x.truth(0, 2);
    Edge.due("the first DAY, too", x.unasked(1, 519), 0b00111101);
  }

  private static void unaskedByWeeks() {
    Edge.says(32, "and were not ASKED up to then");
    SafeVolumes x = new SafeVolumes();
    for (int i = 0; i < 4; i++) x.person(0, LAST, 0, 519);
    Edge.volume(x);
    x.page(0, 5, 1);
    x.truth(5, 2);
    x.ask(0);
    x.clock(7);
    x.ask(1);
    x.clock(519);
    x.ask(2);
    int[] weeks = {0, 1, 6, 7, 8, 518, 519};
    int[] due = {14, 14, 14, 12, 12, 12, 8};
    for (int i = 0; i < weeks.length; i++) Edge.due("unasked in " + weeks[i], x.unasked(0, weeks[i]), due[i]);
  }

  private static void gainTakes() {
    Edge.says(33, "GAIN; NONE without these.");
    Edge.range("gain(0,n)", Edge::everything, (x, n) -> x.gain(0, n), 0, 0, 519, 11, -1);
    Edge.range("gain(n,519)", Edge::everything, (x, n) -> x.gain(n, 519), 0, 11, 1, 6, -1);
    Edge.refused("without PEOPLE", Edge.NOTHING, x -> x.gain(0, 0));
  }

  private static void gainByWeeks() {
    Edge.says(33, "GAINS coins (0 to 999) for each VOLUME that CAME from a WEEK on");
    SafeVolumes x = new SafeVolumes();
    int[] from = {0, 4, 5, 6, 518, 519};
    for (int week : from) x.person(0, 0, 10, week);
    Edge.volume(x);
    Edge.piece(x, 1, 0);
    x.clock(5);
    Edge.volume(x);
    Edge.piece(x, 2, 0);
    Edge.volume(x);
    x.clock(519);
    Edge.volume(x);
    int[] due = {40, 30, 30, 10, 10, 10};
    for (int i = 0; i < from.length; i++) Edge.due("from " + from[i], x.gain(i, 519), due[i]);
    Edge.says(33, "GAIN up to a WEEK.");
    int[] weeks = {0, 1, 4, 5, 6, 518, 519};
    int[] upTo = {10, 10, 10, 30, 30, 30, 40};
    int[] fromFive = {0, 0, 0, 20, 20, 20, 30};
    for (int i = 0; i < weeks.length; i++) Edge.due("up to " + weeks[i], x.gain(0, weeks[i]), upTo[i]);
    for (int i = 0; i < weeks.length; i++) Edge.due("from 5 up to " + weeks[i], x.gain(2, weeks[i]), fromFive[i]);
    SafeVolumes y = Edge.told(z -> Edge.pieces(z, 90));
    y.person(0, 0, 999, 0);
    y.person(0, 0, 0, 0);
    Edge.due("the most", y.gain(0, 0), 89910);
    Edge.due("nothing", y.gain(1, 519), 0);
    Edge.due("not up to a WEEK ahead", y.gain(0, 519), 89910);
  }

  private static void count() {
    Edge.says(34, "What 0: NOW, 1: STUFFS, 2: DAYS of TRUTH, 3: FACTS, 4: PIECES, 5: PAGES, 6: READERS, 7: MAKERS, 8: LOOKS, 9: TESTS, 10: PEOPLE, 11: bytes of the TAPE. NONE for others.");
    Edge.range("count(n)", Edge::everything, (x, n) -> x.count(n), 0, 6, 11, 6, -1);
    SafeVolumes x = Edge.told(Edge::everything);
    int[] due = {6, 2, 3, 3, 3, 6, 2, 1, 2, 1, 2, 6};
    for (int i = 0; i < due.length; i++) Edge.due("count(" + i + ")", x.count(i), due[i]);
    SafeVolumes y = new SafeVolumes();
    for (int n : new int[] {-1, 12, Integer.MIN_VALUE, Integer.MAX_VALUE}) Edge.due("count(" + n + ") of a new object", y.count(n), -1);
  }

  // ---- IMAGES

  private static void image() {
    Edge.says(35, "An IMAGE is made (also where nothing was told yet): NOW; NONE for another k.");
    Edge.range("image(n)", Edge::everything, (x, n) -> x.image(n), 0, 6, 3, 6, -1);
    Edge.range("image(n) of a new object", Edge.NOTHING, (x, n) -> x.image(n), 0, 0, 3, 0, -1);
    SafeVolumes x = Edge.told(y -> y.clock(519));
    for (int k = 0; k < 4; k++) Edge.due("image(" + k + ") in 519", x.image(k), 519);
    Edge.says(35, "IMAGES 0 to 3: all but the TAPE and the texts, as it is; gone back to, it is as it was (these stay).");
    SafeVolumes plain = Edge.told(Edge::everything), imaged = Edge.told(Edge::everything);
    plain.image(2);
    imaged.image(2);
    for (int i = 0; i < 3; i++) imaged.image(2);
    Edge.alike("an IMAGE made again and again", imaged, plain);
  }

  private static void imageOfNothing() {
    Edge.says(35, "(also where nothing was told yet)");
    SafeVolumes x = new SafeVolumes();
    Edge.due("image(3)", x.image(3), 0);
    Edge.everything(x);
    for (int p = 0; p < 3; p++) x.keep(p, 99);
    Edge.due("back(3)", x.back(3), 0);
    for (int i = 0; i <= 11; i++) Edge.due("count(" + i + ")", x.count(i), i == 6 ? 2 : i == 7 ? 1 : i == 11 ? 6 : 0);
    Edge.due("the first STUFF anew", x.stuff(1900, 1), 0);
    Edge.due("the first PIECE anew", Edge.piece(x, 2, 0), 0);
    Edge.due("it has no PAGES", x.of(0, 0), 0);
    Edge.due("it is not KEPT CLOSE", x.keep(0, 1), 0);
    Edge.pieces(x, 2);
    Edge.due("nor is the second", x.keep(1, 1), 0);
    Edge.due("nor the third", x.keep(2, 1), 0);
    Edge.due("the first DAY anew", x.truth(0, 1), 1);
    Edge.due("the first FACT anew", x.fact(0, 2, 1), 1);
    Edge.due("the first PERSON anew", x.person(0, 0, 0, 0), 0);
    Edge.due("not ASKED", x.ask(0), true);
  }

  private static void back() {
    Edge.says(36, "All is as in an IMAGE: NOW; NONE, and nothing happens, if it was never made, or without it.");
    Edge.range("back(n)", x -> { for (int k = 0; k < 4; k++) x.image(k); Edge.everything(x); }, (x, n) -> x.back(n), 0, 0, 3, 0, -1);
    for (int k : new int[] {0, 1, 3}) Edge.refused("back(" + k + "), never made", Edge::everything, x -> x.back(k));
    for (int k = -1; k <= 4; k++) { int one = k; Edge.refused("back(" + k + ") of a new object", Edge.NOTHING, x -> x.back(one)); }
    SafeVolumes x = new SafeVolumes();
    x.clock(4);
    x.image(1);
    x.clock(9);
    Edge.due("back", x.back(1), 4);
    Edge.due("NOW", x.count(0), 4);
    Edge.due("back again", x.back(1), 4);
    Edge.due("a WEEK that was ahead", x.clock(5), true);
    x.image(1);
    Edge.due("the newer one", x.back(1), 5);
    Edge.due("a WEEK that is over", x.clock(4), false);
  }

  private static void changes(SafeVolumes x) {
    x.clock(9);
    x.stuff(1950, 3);
    x.truth(7, 7);
    x.fact(5, 7, 8);
    Edge.piece(x, 0, 4);
    x.page(0, 7, 8);
    x.page(3, 8, 8);
    x.make(0, 0, 2, 3, 4);
    x.look(1, 0, 2, 1);
    x.test(2, 0);
    x.test(0, 0);
    x.keep(0, 77);
    x.keep(1, 0);
    x.person(0, 9, 1, 1);
    x.ask(0);
  }
  private static void whatAnImageHolds() {
    Edge.says(36, "all but the TAPE and the texts, as it is; gone back to, it is as it was");
    for (int k = 0; k < 4; k++) {
      int one = k;
      SafeVolumes x = Edge.told(Edge::everything), twin = Edge.told(Edge::everything);
      x.image(one);
      twin.image(one);
      changes(x);
      Edge.due("back", x.back(one), 6);
      Edge.alike("all that was done since", x, twin);
    }
    // to and fro: each IMAGE has its own
    SafeVolumes x = Edge.told(Edge::everything), before = Edge.told(Edge::everything), after = Edge.told(Edge::everything);
    for (SafeVolumes y : new SafeVolumes[] {x, before, after}) { y.image(0); changes(y); y.image(3); }
    before.back(0);
    x.back(0);
    Edge.due("forth", x.back(3), 9);
    Edge.due("back", x.back(0), 6);
    x.truth(8, 8);
    x.back(3);
    x.page(1, 1, 1);
    x.ask(2);
    x.back(0);
    Edge.alike("to and fro", x, before);
    SafeVolumes z = Edge.told(Edge::everything);
    z.image(0);
    changes(z);
    z.image(3);
    z.back(0);
    z.back(3);
    Edge.alike("forth again", z, after);
  }

  private static void whatStays() {
    Edge.says(36, "gone back to, it is as it was (these stay)");
    SafeVolumes x = Edge.told(y -> Edge.pieces(y, 2));
    Edge.reader(x, "yes 1");
    x.image(0);
    Edge.reader(x, "yes 2");
    Edge.maker(x, "pace 1");
    Texts.feed(x, "yes 3");
    x.back(0);
    Edge.due("READERS", x.count(6), 2);
    Edge.due("MAKERS", x.count(7), 1);
    Edge.due("bytes", x.count(11), 5);
    Edge.due("the second READER", x.chance(1, 0, 1), 2);
    Edge.due("the MAKER", x.could(0), 1);
    Edge.due("the TAPE", x.reader(), 2);
    Edge.due("what it said", x.chance(2, 0, 1), 3);
    SafeVolumes z = Edge.told(y -> Edge.pieces(y, 2));
    Texts.feed(z, "yes 4");
    z.image(0);
    z.end(3);
    z.back(0);
    Edge.due("the TAPE is not as it was", z.count(11), 3);
    Edge.due("nor what is on it", z.reader(), -2 - (1 + 8 * 3));
    Edge.says(36, "a STUFF of his is not there");
    SafeVolumes w = Edge.told(y -> Edge.pieces(y, 1));
    w.image(0);
    w.stuff(1900, 1);
    w.truth(0, 1);
    Edge.maker(w, "of 0");
    Edge.due("there", w.make(0, 0, 0, 1, 0), 1);
    w.back(0);
    w.truth(0, 1);
    Edge.due("not there any more", w.make(0, 0, 0, 1, 0), -1);
  }

  private static void fullAndBack() {
    Edge.says(36, "All is as in an IMAGE");
    SafeVolumes x = new SafeVolumes();
    Edge.stuffs(x, 9);
    Edge.pieces(x, 89);
    for (int i = 0; i < 7; i++) x.person(0, 0, 0, 0);
    for (int i = 0; i < 199; i++) x.truth(i, 1);
    x.image(0);
    for (int i = 0; i < 3; i++) {
      Edge.due("the tenth STUFF", x.stuff(1900, 1), 9);
      Edge.due("an eleventh", x.stuff(1900, 1), -1);
      Edge.due("the last PIECE", Edge.volume(x), 89);
      Edge.due("a 91st", Edge.volume(x), -1);
      Edge.due("the eighth PERSON", x.person(0, 0, 0, 0), 7);
      Edge.due("a ninth", x.person(0, 0, 0, 0), -1);
      Edge.due("the 200th DAY", x.truth(5000, 1), 200);
      Edge.due("a 201st", x.truth(5001, 1), -1);
      x.image(1);
      Edge.due("back", x.back(0), 0);
    }
    Edge.due("to what is full", x.back(1), 0);
    Edge.due("an eleventh", x.stuff(1900, 1), -1);
    Edge.due("a 91st", Edge.volume(x), -1);
    Edge.due("a ninth", x.person(0, 0, 0, 0), -1);
    Edge.due("a 201st", x.truth(5001, 1), -1);
    SafeVolumes y = new SafeVolumes();
    y.stuff(1950, 1);
    Edge.piece(y, 0, 1);
    Edge.piece(y, 0, 0);
    Edge.reader(y, "yes 0");
    for (int i = 0; i < 199; i++) y.look(0, 0, 1, 0);
    for (int i = 0; i < 199; i++) y.test(0, 0);
    y.image(0);
    for (int i = 0; i < 3; i++) {
      Edge.due("the 200th LOOK", y.look(0, 0, 1, 0), 0);
      Edge.due("a 201st", y.look(0, 0, 1, 0), -1);
      Edge.due("the 200th TEST", y.test(0, 0), 1);
      Edge.due("a 201st", y.test(0, 0), -1);
      y.back(0);
    }
    SafeVolumes z = Edge.told(v -> { Edge.pieces(v, 8); for (int d = 0; d < 60; d++) v.truth(d, 1); Edge.maker(v, "pace 1"); });
    for (int p = 0; p < 7; p++) z.make(0, p, 0, p < 6 ? 60 : 39, 0);
    for (int i = 0; i < 299; i++) z.fact(i % 6, i, 2);
    z.image(0);
    for (int i = 0; i < 3; i++) {
      Edge.due("the 400th PAGE", z.page(7, 9, 9), 400);
      Edge.due("a 401st", z.page(7, 10, 9), -1);
      Edge.due("the 300th FACT", z.fact(0, 5000, 9), 300);
      Edge.due("a 301st", z.fact(0, 5001, 9), -1);
      z.back(0);
    }
    Edge.due("PAGES", z.count(5), 399);
    Edge.due("FACTS", z.count(3), 299);
  }
}
