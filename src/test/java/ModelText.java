import java.util.ArrayList;
import java.util.List;

/** A text of a READER or of a MAKER, read by descent: what the document says of it, and no more. */
final class ModelText {
  static final String[] VALUES = {"apart", "own", "late", "wrong", "shared", "nowhere", "pages", "price", "week", "volumes"};

  private static final class Fault extends RuntimeException {
    private static final long serialVersionUID = 1L;
    final int number;
    Fault(int place, int why) { super(null, null, false, false); number = 1 + 8 * place + why; }
  }
  /** A tree: a number, a word, or two parts with a sign. */
  private static final class Node {
    String sign; long number; Node left; Node right;
    Node(String sign, long number, Node left, Node right) { this.sign = sign; this.number = number; this.left = left; this.right = right; }
    long value(long[] words) {
      if (sign.equals("number")) return number;
      for (int i = 0; i < VALUES.length; i++) if (VALUES[i].equals(sign)) return words[i];
      switch (sign) {
        case "+": return left.value(words) + right.value(words);
        case "-": return left.value(words) - right.value(words);
        case "*": return left.value(words) * right.value(words);
        default: throw new IllegalStateException(sign);
      }
    }
    boolean holds(long[] words) {
      switch (sign) {
        case "or": return left.holds(words) || right.holds(words);
        case "and": return left.holds(words) && right.holds(words);
        case "not": return !left.holds(words);
        case "<": return left.value(words) < right.value(words);
        case "<=": return left.value(words) <= right.value(words);
        case "=": return left.value(words) == right.value(words);
        case ">=": return left.value(words) >= right.value(words);
        case ">": return left.value(words) > right.value(words);
        default: throw new IllegalStateException(sign);
      }
    }
  }

  private final int[] text;
  private int at = 0;
  private int items = 0;
  int fault = 0;
  private final List<Node> sums = new ArrayList<>();
  private final List<Node> tests = new ArrayList<>();
  int takes = 1, coins = 1, pace = 1, slips = 0, of = 0;
  final List<Integer> from = new ArrayList<>();

  ModelText(int[] text, boolean ofReader) {
    this.text = text.clone();
    try { readAll(ofReader); } catch (Fault f) { fault = f.number; }
  }

  int chance(long[] words) {
    for (int i = 0; i < sums.size(); i++) {
      if (tests.get(i) == null || tests.get(i).holds(words)) {
        long sum = sums.get(i).value(words);
        return sum < 0 ? 0 : sum > 1000 ? 1000 : (int) sum;
      }
    }
    return 500;
  }

  private int peek() { while (at < text.length && text[at] == 32) at++; return at < text.length ? text[at] : -1; }
  private static boolean letter(int b) { return b >= 'a' && b <= 'z'; }
  private static boolean digit(int b) { return b >= '0' && b <= '9'; }
  private String word() {
    peek();
    StringBuilder s = new StringBuilder();
    for (int i = at; i < text.length && letter(text[i]); i++) s.append((char) text[i]);
    return s.toString();
  }
  private String digits() {
    peek();
    StringBuilder s = new StringBuilder();
    for (int i = at; i < text.length && digit(text[i]); i++) s.append((char) text[i]);
    return s.toString();
  }

  private void readAll(boolean ofReader) {
    List<String> once = new ArrayList<>();
    for (int n = 1; ; n++) {
      String w = word();
      List<String> may = ofReader ? List.of("yes", "takes", "coins") : List.of("pace", "slips", "from", "of");
      if (!may.contains(w)) throw new Fault(at, 0);
      if (n > 12) throw new Fault(at, 4);
      if (once.contains(w)) throw new Fault(at, 4);
      if (List.of("takes", "coins", "pace", "slips").contains(w)) once.add(w);
      at += w.length();
      switch (w) {
        case "yes": readYes(); break;
        case "takes": takes = number(1, 99); break;
        case "coins": coins = number(1, 999); break;
        case "pace": pace = number(1, 99); break;
        case "slips": slips = number(0, 1000); break;
        case "from": from.add(number(0, 5)); break;
        default: of |= 1 << number(0, 9); break;
      }
      if (peek() == -1) return;
      if (peek() != ';') throw new Fault(at, 0);
      at++;
    }
  }
  private int number(int least, int most) {
    String d = digits();
    if (d.isEmpty()) throw new Fault(at, 0);
    if (d.length() > 5 || Integer.parseInt(d) < least || Integer.parseInt(d) > most) throw new Fault(at, 1);
    at += d.length();
    return Integer.parseInt(d);
  }
  private void readYes() {
    sums.add(sum());
    if (word().equals("if")) { at += 2; tests.add(whole(0)); } else tests.add(null);
  }
  private Node whole(int depth) {
    Node left = part(depth);
    while (word().equals("or")) { at += 2; left = new Node("or", 0, left, part(depth)); }
    return left;
  }
  private Node part(int depth) {
    Node left = fact(depth);
    while (word().equals("and")) { at += 3; left = new Node("and", 0, left, fact(depth)); }
    return left;
  }
  private Node fact(int depth) {
    boolean not = word().equals("not");
    if (not || peek() == '[') {
      if (depth == 10) throw new Fault(at, 2);
      at += not ? 3 : 1;
      if (not) return new Node("not", 0, fact(depth + 1), null);
      Node inside = whole(depth + 1);
      if (peek() != ']') throw new Fault(at, 0);
      at++;
      return inside;
    }
    Node left = sum();
    int sign = peek();
    if (sign != '<' && sign != '=' && sign != '>') throw new Fault(at, 0);
    if (++items > 60) throw new Fault(at, 3);
    at++;
    String s = "" + (char) sign;
    if (sign != '=' && at < text.length && text[at] == '=') { s += "="; at++; }
    return new Node(s, 0, left, sum());
  }
  private Node sum() {
    Node left = term();
    while (peek() == '+' || peek() == '-') { String s = "" + (char) peek(); at++; left = new Node(s, 0, left, term()); }
    return left;
  }
  private Node term() {
    Node left = value();
    while (peek() == '*') { at++; left = new Node("*", 0, left, value()); }
    return left;
  }
  private Node value() {
    String d = digits();
    if (!d.isEmpty()) {
      if (d.length() > 5) throw new Fault(at, 1);
      if (++items > 60) throw new Fault(at, 3);
      at += d.length();
      return new Node("number", Long.parseLong(d), null, null);
    }
    String w = word();
    if (!List.of(VALUES).contains(w)) throw new Fault(at, 0);
    if (++items > 60) throw new Fault(at, 3);
    at += w.length();
    return new Node(w, 0, null, null);
  }
}
