import java.util.Random;

/**
 * Texts of the law that are drawn (the seeds are fixed), as long as THE TAPE can be and as deep as they may go and one
 * deeper, whole, cut or with a byte changed: FAULT and what the law gives must be as LawText tells them.
 */
public final class LawTest {
  private static final int TEXTS = 20000, MOST = 120;
  private static final String SIGNS = "|&<=>+-*/%", BYTES = "|&<=>+-*/%!()?;abltnd0123456789 zA";

  private final Random random;
  private int longest, deepest, laws, faults;

  private LawTest(long seed) { random = new Random(seed); }

  public static void main(String[] args) {
    LawTest test = new LawTest(5);
    for (int i = 0; i < TEXTS; i++) test.one();
    Due.is("some texts were as long as they may be", MOST, test.longest);
    Due.is("some laws were as deep as they may be", 6, test.deepest);
    Due.is("many were laws", 1, test.laws > TEXTS / 5 ? 1 : 0);
    Due.is("many had faults", 1, test.faults > TEXTS / 5 ? 1 : 0);
    Due.end();
  }

  private void one() {
    String text = changed(text());
    NightLetIn x = new NightLetIn();
    int[] names = land(x);
    int fault = LawText.fault(text);
    Due.is("law of " + text, fault < 0 ? 1 : -100 - fault, Due.law(x, text));
    longest = Math.max(longest, text.length());
    if (fault >= 0) {
      faults++;
      return;
    }
    laws++;
    deepest = Math.max(deepest, deepestOf(text));
    x.day(-1);
    Due.is("night by " + text, Math.max(0, Math.min(99, LawText.value(text, names))), x.of(0, 0));
  }

  /** A barn with drawn numbers, which are what the names of the law tell. */
  private int[] land(NightLetIn x) {
    int[] names = {random.nextInt(100), random.nextInt(100), random.nextInt(10), random.nextInt(10),
        random.nextInt(9), 0};
    x.barn(random.nextInt(100), names[0]);
    x.mend(0, 1, names[1]);
    x.mend(0, 2, names[2]);
    x.mend(0, 7, names[3]);
    for (int i = 0; i < names[4]; i++) Due.boyIn(x, random.nextInt(31), 0);
    return names;
  }

  /** Some are one line by which what is worked out is seen, though night is held within 0 .. 99. */
  private String text() {
    StringBuilder s = new StringBuilder();
    if (random.nextInt(3) == 0) return expression(s.append('('), 1).append(")%50+50").toString();
    int want = random.nextInt(MOST + 1);
    do {
      if (s.length() > 0) s.append(';');
      if (random.nextInt(3) > 0) expression(s, 0).append('?');
      expression(s, 0);
    } while (s.length() < want);
    return s.toString();
  }

  private StringBuilder expression(StringBuilder s, int open) {
    boolean compared = false;
    operand(s, open);
    for (int n = random.nextInt(4); n > 0; n--) {
      char sign = SIGNS.charAt(random.nextInt(SIGNS.length()));
      boolean compares = "<=>".indexOf(sign) >= 0;
      if (compares && compared) sign = '&';
      if (sign == '&' || sign == '|') compared = false;
      else if (compares) compared = true;
      s.append(sign);
      operand(s, open);
    }
    return s;
  }

  /** Now and then one is open too many. */
  private void operand(StringBuilder s, int open) {
    boolean mayOpen = open < 6 || random.nextInt(50) == 0;
    int kind = mayOpen ? random.nextInt(8) : 4 + random.nextInt(4);
    if (kind < 2 && s.length() < MOST) {
      s.append('(');
      expression(s, open + 1).append(')');
    } else if (kind < 4) {
      s.append(kind == 2 ? '!' : '-');
      operand(s, open + 1);
    } else if (kind == 4) {
      s.append(random.nextInt(random.nextBoolean() ? 10 : 10100));
    } else {
      s.append("abltnd".charAt(random.nextInt(6)));
    }
  }

  /** Cut to what the tape holds; some are cut anywhere, some have another byte. */
  private String changed(String text) {
    StringBuilder s = new StringBuilder(text);
    if (s.length() > MOST) s.setLength(MOST);
    int kind = random.nextInt(8);
    if (kind == 0) s.setLength(random.nextInt(s.length() + 1));
    if (kind == 1) s.setCharAt(random.nextInt(s.length()), BYTES.charAt(random.nextInt(BYTES.length())));
    if (kind == 2) s.setCharAt(random.nextInt(s.length()), (char) random.nextInt(256));
    return s.toString();
  }

  /** How many of ( ! - are open at once at the most, in a text without a fault. */
  private static int deepestOf(String text) {
    int deepest = 0;
    StringBuilder open = new StringBuilder();
    boolean wanted = true;
    for (char c : text.toCharArray()) {
      if (wanted && "(!-".indexOf(c) >= 0) {
        open.append(c);
        deepest = Math.max(deepest, open.length());
        continue;
      }
      wanted = !Character.isLetterOrDigit(c) && c != ')';
      while (open.length() > 0 && open.charAt(open.length() - 1) != '(') open.setLength(open.length() - 1);
      if (c == ')') open.setLength(open.length() - 1);
    }
    return deepest;
  }
}
