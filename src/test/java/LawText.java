import java.util.ArrayDeque;
import java.util.Deque;

/** THE LAW's texts read by other means than the class: a walk over states, and cuts at the weakest sign. */
final class LawText {
  private static final String NAMES = "pwasgb";

  /** What stands open: the ( ! - ahead of an operand, and whether a comparison was used where each ( began. */
  private static final class Walk {
    final Deque<Character> open = new ArrayDeque<>();
    final Deque<Boolean> compared = new ArrayDeque<>();
    boolean wantsOperand = true, asked = false;
    int digits = 0;

    Walk() { compared.push(false); }

    void closeSigns() {
      while (!open.isEmpty() && open.peek() != '(') open.pop();
    }

    boolean operandStep(char c) {
      if (c == '(' || c == '!' || c == '-') {
        if (open.size() == 6) return false;
        open.push(c);
        if (c == '(') compared.push(false);
        return true;
      }
      boolean digit = c >= '0' && c <= '9';
      if (!digit && NAMES.indexOf(c) < 0) return false;
      digits = digit ? 1 : 0;
      wantsOperand = false;
      return true;
    }

    boolean signStep(char c) {
      if (digits > 0 && digits < 4 && c >= '0' && c <= '9') {
        digits++;
        return true;
      }
      digits = 0;
      closeSigns();
      if (c == ')') {
        if (open.isEmpty()) return false;
        open.pop();
        compared.pop();
        return true;
      }
      if ("<=>".indexOf(c) >= 0) {
        if (compared.peek()) return false;
        compared.pop();
        compared.push(true);
      } else if (c == '|' || c == '&') {
        compared.pop();
        compared.push(false);
      } else if (c == '?' || c == ';') {
        if (!open.isEmpty() || c == '?' && asked) return false;
        asked = c == '?';
        compared.pop();
        compared.push(false);
      } else if ("+-*/%".indexOf(c) < 0) {
        return false;
      }
      wantsOperand = true;
      return true;
    }

    boolean canEnd() {
      if (wantsOperand) return false;
      closeSigns();
      return open.isEmpty();
    }
  }

  /** The FAULT, or -1. */
  static int fault(String text) {
    Walk walk = new Walk();
    for (int i = 0; i < text.length(); i++) {
      char c = text.charAt(i);
      if (!(walk.wantsOperand ? walk.operandStep(c) : walk.signStep(c))) return i;
    }
    return walk.canEnd() ? -1 : text.length();
  }

  static int value(String text, int[] names) {
    for (String line : text.split(";")) {
      int at = line.indexOf('?');
      if (at < 0) return part(line, names);
      if (part(line.substring(0, at), names) != 0) return part(line.substring(at + 1), names);
    }
    return 0;
  }

  /** Cuts at the last of the weakest signs that stand outside of ( ) between two operands. */
  private static int part(String e, int[] names) {
    for (String signs : new String[] {"|", "&", "<=>", "+-", "*/%"}) {
      int depth = 0;
      for (int i = e.length() - 1; i > 0; i--) {
        char c = e.charAt(i), before = e.charAt(i - 1);
        depth += c == ')' ? 1 : c == '(' ? -1 : 0;
        boolean between = before == ')' || Character.isDigit(before) || NAMES.indexOf(before) >= 0;
        if (depth == 0 && between && signs.indexOf(c) >= 0) {
          return joined(c, part(e.substring(0, i), names), part(e.substring(i + 1), names));
        }
      }
    }
    char first = e.charAt(0);
    if (first == '!') return part(e.substring(1), names) == 0 ? 1 : 0;
    if (first == '-') return -part(e.substring(1), names);
    if (first == '(') return part(e.substring(1, e.length() - 1), names);
    return Character.isDigit(first) ? Integer.parseInt(e) : names[NAMES.indexOf(first)];
  }

  private static int joined(char sign, int a, int b) {
    return switch (sign) {
      case '|' -> a != 0 | b != 0 ? 1 : 0;
      case '&' -> a != 0 & b != 0 ? 1 : 0;
      case '<' -> a < b ? 1 : 0;
      case '=' -> a == b ? 1 : 0;
      case '>' -> a > b ? 1 : 0;
      case '+' -> a + b;
      case '-' -> a - b;
      case '*' -> a * b;
      case '/' -> b == 0 ? 0 : a / b;
      default -> b == 0 ? 0 : a % b;
    };
  }
}
