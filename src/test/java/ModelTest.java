import java.util.ArrayList;
import java.util.List;
import java.util.Random;

/** Random runs of 512 calls: each answer as the model's. */
final class ModelTest {
  private static final int RUNS = 400, CALLS = 512;
  private static final String[] LAWS = {
    "p*(1+w)-a/5+s+(g>3)*b", "p", "w?p*2;p/2+a", "s>1?p-s*10;g=b?999;a+b*g", "-p+a*3%7", "!w&p>a|g<2", "1000*p", "p-9999",
    "(p+a)/(g-2)", "p%(b-1)+a", "w?0;g=0|g=5?p+!s;p-(a>30)*5", "0?7;!1?8", "-(-(-(-(-(-1)))))", "2*-p+300", "9999*9999*9999",
    "a", "2*a-g", "a<30?p;40", "a>20?0;60", "99-a", "a%20*3",
  };

  private final Check check = new Check();

  public static void main(String[] args) {
    ModelTest test = new ModelTest();
    for (int run = 0; run < RUNS && !test.check.hasWrong(); run++) test.run(run);
    for (int run = 0; run < 20000 && !test.check.hasWrong(); run++) test.text(run);
    test.check.end();
  }

  private void run(int run) {
    Random r = new Random(run);
    BlindSacks x = new BlindSacks();
    Model m = new Model();
    List<Calls.Call> calls = new ArrayList<>();
    for (int k = 0; k < CALLS; k++) {
      if (r.nextInt(40) == 0) {
        for (char c : (r.nextInt(5) == 0 ? randomText(r) : LAWS[r.nextInt(LAWS.length)]).toCharArray()) {
          calls.add(new Calls.Call("feed", List.of((int) c)));
        }
        calls.add(new Calls.Call("law", List.of()));
      } else if (k < 20) {
        calls.add(new Calls.Call(k % 2 == 0 ? "row" : "sack", k % 2 == 0 ? List.of(k / 2 % 6, 0, k < 4 ? 6 : 18) : List.of(r.nextInt(6))));
      } else {
        calls.add(Calls.random(r));
      }
    }
    for (int k = 0; k < CALLS && !check.hasWrong(); k++) {
      check.due("run " + run + ", call " + k + ": " + calls.get(k), Calls.answer(x, calls.get(k)), Calls.answer(m, calls.get(k)));
    }
  }

  private void text(int run) {
    Random r = new Random(run);
    BlindSacks x = new BlindSacks();
    x.sack(3);
    x.buyer(50, 2);
    String text = randomText(r);
    int fault = LawText.fault(text);
    check.due("law " + text, Check.law(x, text), fault < 0 ? 1 : -100 - fault);
    for (int g = 0; g < 6 && fault < 0; g++) {
      int value = LawText.value(text, new int[] {10 * g, g == 2 ? 1 : 0, 10, 0, g, 0});
      check.due("law " + text + " of good " + g, x.worthOf(0, g), Math.max(0, Math.min(999, value)));
    }
  }

  /** Mostly a text by the rules, sometimes with a letter spoilt. */
  private static String randomText(Random r) {
    StringBuilder b = new StringBuilder();
    int lines = 1 + r.nextInt(3);
    for (int k = 0; k < lines; k++) {
      if (k > 0) b.append(';');
      either(b, r, 0);
      if (r.nextInt(2) == 0) {
        b.append('?');
        either(b, r, 0);
      }
    }
    String text = b.length() > 120 ? b.substring(0, 120) : b.toString();
    if (r.nextInt(3) > 0) return text;
    int at = r.nextInt(text.length());
    String signs = "()!-+*/%<=>|&?;pwasgbx09 ";
    char c = r.nextInt(20) == 0 ? (char) r.nextInt(256) : signs.charAt(r.nextInt(signs.length()));
    return switch (r.nextInt(3)) {
      case 0 -> text.substring(0, at) + c + text.substring(at + 1);
      case 1 -> (text.substring(0, at) + c + text.substring(at)).substring(0, Math.min(120, text.length() + 1));
      default -> text.substring(0, at);
    };
  }

  private static void either(StringBuilder b, Random r, int open) {
    int parts = 1 + r.nextInt(4) / 2;
    for (int k = 0; k < parts; k++) {
      if (k > 0) b.append("|&".charAt(r.nextInt(2)));
      sum(b, r, open);
      if (r.nextInt(3) == 0) {
        b.append("<=>".charAt(r.nextInt(3)));
        sum(b, r, open);
      }
    }
  }

  private static void sum(StringBuilder b, Random r, int open) {
    int parts = 1 + r.nextInt(3) / 2 + r.nextInt(2);
    for (int k = 0; k < parts; k++) {
      if (k > 0) b.append("+-*/%".charAt(r.nextInt(5)));
      operand(b, r, open);
    }
  }

  private static void operand(StringBuilder b, Random r, int open) {
    int k = r.nextInt(10);
    // Now and then one more than may be open.
    boolean opens = open < 6 || r.nextInt(10) == 0 && open < 8;
    if (opens && k < 1) {
      b.append('(');
      either(b, r, open + 1);
      b.append(')');
    } else if (opens && k < 4) {
      b.append("!-".charAt(r.nextInt(2)));
      operand(b, r, open + 1);
    } else if (k < 7) {
      b.append("pwasgb".charAt(r.nextInt(6)));
    } else {
      b.append(r.nextInt(30) == 0 ? r.nextInt(99999) : r.nextInt(2) == 0 ? r.nextInt(10) : r.nextInt(10000));
    }
  }
}
