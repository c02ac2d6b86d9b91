import java.io.IOException;
import java.nio.file.Files;
import java.nio.file.Path;
import java.util.ArrayList;
import java.util.List;
import java.util.Set;
import java.util.TreeSet;

/** What the tests of edges share: sentences of the document, answers that are due, ranges, twins of which one alone is refused. */
final class Edge {
  interface Telling { void on(SafeVolumes x); }
  interface Call { long on(SafeVolumes x, int number); }

  static final int NO = SafeVolumes.NONE;
  static final Telling NOTHING = x -> { };
  private static final String DOCUMENT = document();
  private static final Set<Integer> PROMISES = new TreeSet<>();
  private static int wrong = 0;
  private static int promise = 0;
  private static String sentence = "";

  private static String document() {
    try {
      return plain(Files.readString(Path.of("../shared/DOC.md")));
    } catch (IOException e) {
      System.out.println("the document is not there: its sentences are not looked up");
      return null;
    }
  }
  private static String plain(String text) { return text.replaceAll("\\s+", " "); }

  /** To which sentence of the document, word by word, the answers behind it hold. */
  static void says(int number, String words) {
    promise = number;
    sentence = words;
    PROMISES.add(number);
    // the answers are what counts: another wording alone is told, but is no failure
    if (DOCUMENT != null && !DOCUMENT.contains(plain(words))) System.out.println("promise " + number + ": the document does not say \"" + words + "\"");
  }
  private static void fail(String what) {
    wrong++;
    System.out.println("promise " + promise + ", \"" + sentence + "\": " + what);
  }
  static void due(String call, long got, long want) { if (got != want) fail(call + " answered " + got + ", due is " + want); }
  static void due(String call, boolean got, boolean want) { if (got != want) fail(call + " answered " + got + ", due is " + want); }

  /** Ends the test; each promise from one to another must have had its sentences. */
  static void finish(int from, int to) {
    for (int i = from; i <= to; i++) if (!PROMISES.contains(i)) { wrong++; System.out.println("promise " + i + " has no edge"); }
    System.out.println(wrong == 0 ? "all edges hold" : wrong + " edges do not hold");
    if (wrong != 0) System.exit(1);
  }

  static SafeVolumes told(Telling telling) {
    SafeVolumes x = new SafeVolumes();
    telling.on(x);
    return x;
  }

  /** The least and the greatest number are taken with these answers; those beyond are refused, and change nothing. */
  static void range(String call, Telling ahead, Call of, int least, long answerOfLeast, int most, long answerOfMost, long refusal) {
    due(call + " of " + least, of.on(told(ahead), least), answerOfLeast);
    due(call + " of " + most, of.on(told(ahead), most), answerOfMost);
    int[] beyond = {least - 1, most + 1, Integer.MIN_VALUE, Integer.MAX_VALUE};
    for (int n : beyond) if (n < least || n > most) refused(call + " of " + n, ahead, x -> of.on(x, n), refusal);
  }

  interface Asked { long on(SafeVolumes x); }

  /** A call is refused, and nothing that can be asked is another one than without the call. */
  static void refused(String call, Telling ahead, Asked asked, long refusal) {
    SafeVolumes one = told(ahead), twin = told(ahead);
    due(call, asked.on(one), refusal);
    unlike(call, all(one), all(twin));
  }
  static void refused(String call, Telling ahead, Asked asked) { refused(call, ahead, asked, NO); }

  /** Two objects answer alike, whatever they are asked. */
  static void alike(String what, SafeVolumes one, SafeVolumes other) { unlike(what, all(one), all(other)); }
  private static void unlike(String what, List<String> got, List<String> want) {
    for (int i = 0; i < want.size(); i++) if (!got.get(i).equals(want.get(i))) fail("behind " + what + ": " + got.get(i) + ", due is " + want.get(i));
  }

  /** All that an object can be asked, of some of its pieces; what it is asked in the end changes it. */
  private static List<String> all(SafeVolumes x) {
    List<String> a = new ArrayList<>();
    for (int i = 0; i <= 11; i++) a.add("count(" + i + ") = " + x.count(i));
    int[] some = {0, 1, 2, x.count(4) - 1};
    for (int p : some) ofPiece(x, p, a);
    for (int i = 0; i < 8; i++) {
      a.add("chance(" + i + ") = " + x.chance(i, 0, 1));
      a.add("wait(" + i + ") = " + x.soonest(1 << i, 0, 1, 6));
      a.add("gain(" + i + ") = " + x.gain(i, 519));
      a.add("outrun(" + i + ") = " + x.outrun(i, 0));
    }
    a.add("surest = " + x.surest(9999, 0, 1) + ", grows = " + x.grows() + ", kin = " + x.kin(0, 1));
    for (int p : some) a.add("kept(" + p + ") = " + x.keep(p, 0));
    for (int i = 0; i < 8; i++) a.add("ask(" + i + ") = " + x.ask(i));
    a.add("the tape is " + x.reader() + ", " + x.maker());
    for (int k = 0; k < 4; k++) a.add("image " + k + " = " + x.back(k) + ", " + x.count(1) + ", " + x.count(4) + ", " + x.count(5));
    return a;
  }
  private static void ofPiece(SafeVolumes x, int p, List<String> a) {
    for (int i = 0; i <= 7; i++) a.add("of(" + p + "," + i + ") = " + x.of(p, i));
    for (int i = 0; i < 6; i++) a.add("shared(" + p + "," + i + ") = " + x.shared(p, i));
    for (int week : new int[] {0, x.count(0), 519}) a.add("stand(" + p + "," + week + ") = " + x.stand(p, week));
    a.add("cost(" + p + ") = " + x.cost(p) + ", cheapest = " + x.cheapest(p) + ", likely = " + x.likely(p) + ", could = " + x.could(p));
    a.add("unasked(" + p + ") = " + x.unasked(p, 0) + ", " + x.unasked(p, 519));
  }

  // ---- short ways of telling

  static int volume(SafeVolumes x) { return x.piece(0, 0, 0, 0, 0, 0, 0, 0); }
  static int piece(SafeVolumes x, int sort, int stuffs) { return x.piece(sort, 0, 0, 0, 0, 0, stuffs, 0); }
  static void pieces(SafeVolumes x, int n) { for (int i = 0; i < n; i++) volume(x); }
  static void stuffs(SafeVolumes x, int n) { for (int i = 0; i < n; i++) x.stuff(1900 + i, 9 - i % 9); }
  static int reader(SafeVolumes x, String text) { x.end(0); return Texts.reader(x, text); }
  static int maker(SafeVolumes x, String text) { x.end(0); return Texts.maker(x, text); }
  /** A bit of everything: what is refused behind it has something to break. */
  static void everything(SafeVolumes x) {
    stuffs(x, 2);
    x.clock(3);
    x.piece(0, 1, 2, 3, 4, 5, 3, 7);
    x.piece(1, 9, 9, 9, 9, 9, 1, 8);
    x.clock(4);
    x.piece(0, 5, 4, 3, 2, 1, 0, 9);
    for (int d = 0; d < 3; d++) { x.truth(d, 1); x.page(0, d, d); x.page(2, d, 2); x.fact(d, 2, 2); }
    reader(x, "yes 400 + apart; takes 3; coins 5");
    reader(x, "yes 0");
    maker(x, "from 0; slips 500; of 1; pace 2");
    x.person(0, 9, 11, 4);
    x.person(2, 2, 3, 0);
    x.look(0, 0, 1, 5);
    x.look(1, 2, 1, 5);
    x.test(0, 1);
    x.keep(1, 9);
    x.ask(1);
    x.image(2);
    x.clock(6);
    Texts.feed(x, "yes 77");
  }
  private Edge() { }
}
