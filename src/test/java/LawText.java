import java.util.ArrayDeque;
import java.util.Deque;

/** Texts of the law without a parser: faults by a walk over the bytes, values by cutting at the loosest sign. */
final class LawText {
  private static final String NAMES = "abltnd";

  /** The fault's place, or -1. */
  static int fault(String text) {
    Deque<Character> open = new ArrayDeque<>();
    Deque<Boolean> compared = new ArrayDeque<>();
    boolean want = true, asked = false, now = false;
    int digits = 0;
    for (int i = 0; i < text.length(); i++) {
      char c = text.charAt(i);
      if (want) {
        if (Character.digit(c, 10) >= 0 && c < 128) { want = false; digits = 1; }
        else if (NAMES.indexOf(c) >= 0) { want = false; digits = 0; }
        else if ("(!-".indexOf(c) >= 0 && open.size() < 6) {
          open.push(c);
          if (c == '(') { compared.push(now); now = false; }
        } else return i;
        continue;
      }
      if (c >= '0' && c <= '9') {
        if (digits == 0 || digits == 4) return i;
        digits++;
        continue;
      }
      digits = 0;
      while (!open.isEmpty() && open.peek() != '(') open.pop();
      if (c == ')') {
        if (open.isEmpty()) return i;
        open.pop();
        now = compared.pop();
        continue;
      }
      want = true;
      if ("+-*/%".indexOf(c) >= 0) continue;
      if ("<=>".indexOf(c) >= 0) {
        if (now) return i;
        now = true;
      } else if (c == '&' || c == '|') {
        now = false;
      } else if (c == '?' && open.isEmpty() && !asked) {
        asked = true;
        now = false;
      } else if (c == ';' && open.isEmpty()) {
        asked = false;
        now = false;
      } else return i;
    }
    return want || open.contains('(') ? text.length() : -1;
  }

  static int value(String text, int[] names) {
    for (String line : text.split(";")) {
      int q = line.indexOf('?');
      if (q < 0) return of(line, names);
      if (of(line.substring(0, q), names) != 0) return of(line.substring(q + 1), names);
    }
    return 0;
  }

  private static int of(String s, int[] names) {
    String[] levels = {"|", "&", "<=>", "+-", "*/%"};
    for (String signs : levels) {
      int at = lastJoin(s, signs);
      if (at >= 0) return join(s.charAt(at), of(s.substring(0, at), names), of(s.substring(at + 1), names));
    }
    char c = s.charAt(0);
    if (c == '!') return of(s.substring(1), names) == 0 ? 1 : 0;
    if (c == '-') return -of(s.substring(1), names);
    if (c == '(') return of(s.substring(1, s.length() - 1), names);
    return NAMES.indexOf(c) >= 0 ? names[NAMES.indexOf(c)] : Integer.parseInt(s);
  }

  private static int lastJoin(String s, String signs) {
    int depth = 0;
    for (int i = s.length() - 1; i > 0; i--) {
      char c = s.charAt(i);
      if (c == ')') depth++;
      if (c == '(') depth--;
      boolean joins = Character.isLetterOrDigit(s.charAt(i - 1)) || s.charAt(i - 1) == ')';
      if (depth == 0 && joins && signs.indexOf(c) >= 0) return i;
    }
    return -1;
  }

  private static int join(char sign, int l, int r) {
    switch (sign) {
      case '|': return (l != 0) | (r != 0) ? 1 : 0;
      case '&': return (l != 0) & (r != 0) ? 1 : 0;
      case '<': return l < r ? 1 : 0;
      case '=': return l == r ? 1 : 0;
      case '>': return l > r ? 1 : 0;
      case '+': return l + r;
      case '-': return l - r;
      case '*': return l * r;
      case '/': return r == 0 ? 0 : l / r;
      default: return r == 0 ? 0 : l % r;
    }
  }

  private LawText() { }
}
