import java.util.ArrayList;
import java.util.List;
import java.util.Random;

/** Many runs of calls, the same every time, against a second telling of the document over lists. */
public final class ModelTest {
  private static final int RUNS = 20000;
  // A run and the look at its end stay within the 512 calls that an object is promised for.
  private static final int EDITS = 30;
  private static int wrong = 0;

  private final Random random;
  private final StyledText x = new StyledText();
  private final StringBuilder calls = new StringBuilder();
  // A character is a pair: its letter and its style.
  private List<int[]> text = new ArrayList<>();
  private int flag = 0;

  private ModelTest(int seed) {
    random = new Random(seed);
  }

  private void due(String call, int got, int want) {
    if (got != want && wrong++ < 10) {
      System.out.println(calls + "; then " + call + " answered " + got + ", due is " + want);
    }
  }

  private boolean stretch(int i, int j) {
    return 0 <= i && i <= j && j <= text.size();
  }

  private static boolean within(int value, int most) {
    return 0 <= value && value <= most;
  }

  private List<int[]> cut(int i, int j) {
    List<int[]> part = new ArrayList<>();
    for (int[] character : text.subList(i, j)) part.add(character.clone());
    return part;
  }

  private int insert(int p, List<int[]> more) {
    if (text.size() + more.size() > 64) return StyledText.FULL;
    text.addAll(p, more);
    if (p < flag) flag += more.size();
    return text.size();
  }

  private int type(int p, int c) {
    if (!within(c, 25) || !within(p, text.size())) return StyledText.BAD_ARG;
    int style = text.isEmpty() ? 0 : text.get(Math.max(p - 1, 0))[1];
    return insert(p, List.of(new int[] {c, style}));
  }

  private int put(int p, int c, int k, int s) {
    if (!within(c, 25) || !within(p, text.size()) || !within(k, 64) || !within(s, 63)) return StyledText.BAD_ARG;
    List<int[]> more = new ArrayList<>();
    for (int count = 0; count < k; count++) more.add(new int[] {c, s});
    return insert(p, more);
  }

  private int remove(int i, int j) {
    if (!stretch(i, j)) return StyledText.BAD_ARG;
    text.subList(i, j).clear();
    // The flag keeps what stood before it, less those of them that went.
    flag -= Math.max(0, Math.min(flag, j) - i);
    return text.size();
  }

  private int move(int i, int j, int p) {
    if (!stretch(i, j) || !within(p, text.size() - (j - i))) return StyledText.BAD_ARG;
    List<int[]> part = cut(i, j);
    remove(i, j);
    insert(p, part);
    return 0;
  }

  private int copy(int i, int j, int p) {
    if (!stretch(i, j) || !within(p, text.size())) return StyledText.BAD_ARG;
    return insert(p, cut(i, j));
  }

  private static int part(int mask, int bit, int s, int old) {
    return (mask & bit) != 0 ? s & bit : old & bit;
  }

  private int style(int i, int j, int mask, int s) {
    if (!stretch(i, j) || !within(mask, 15) || !within(s, 63)) return StyledText.BAD_ARG;
    int changed = 0;
    for (int[] character : text.subList(i, j)) {
      int old = character[1];
      int size = mask >= 8 ? s / 8 : old / 8;
      character[1] = part(mask, 1, s, old) + part(mask, 2, s, old) + part(mask, 4, s, old) + 8 * size;
      if (character[1] != old) changed++;
    }
    return changed;
  }

  private int toggle(int i, int j, int bit) {
    if (!stretch(i, j) || bit != 1 && bit != 2 && bit != 4) return StyledText.BAD_ARG;
    List<int[]> part = text.subList(i, j);
    boolean lose = part.stream().allMatch(character -> character[1] / bit % 2 == 1);
    for (int[] character : part) {
      boolean has = character[1] / bit % 2 == 1;
      if (has && lose) character[1] -= bit;
      if (!has && !lose) character[1] += bit;
    }
    return lose ? 0 : 1;
  }

  private int replace(int c, int d) {
    if (!within(c, 25) || !within(d, 25)) return StyledText.BAD_ARG;
    int found = 0;
    for (int[] character : text) {
      if (character[0] == c) {
        character[0] = d;
        found++;
      }
    }
    return found;
  }

  private int setFlag(int g) {
    if (!within(g, text.size())) return StyledText.BAD_ARG;
    int before = flag;
    flag = g;
    return before;
  }

  /** Mostly 0 to most, now and then a little outside, seldom far outside. */
  private int around(int most) {
    int kind = random.nextInt(60);
    if (kind == 0) return random.nextInt();
    if (kind == 1) return -1;
    if (kind == 2) return most + 1;
    if (kind == 3) return most;
    return random.nextInt(most + 1);
  }

  private int styleArgument() {
    return random.nextBoolean() ? random.nextInt(4) : around(63);
  }

  private void edit() {
    int n = text.size();
    int i = around(n);
    int j = within(i, n) ? i + around(n - i) : around(n);
    int p = around(n);
    int c = random.nextBoolean() ? random.nextInt(3) : around(25);
    int s = styleArgument();
    switch (random.nextInt(10)) {
      case 0: case 1: edited("type(" + p + ", " + c + ")", x.type(p, c), type(p, c)); break;
      case 2: editPut(p, c, random.nextInt(4) == 0 ? around(64) : random.nextInt(6), s); break;
      case 3: j = random.nextBoolean() ? Math.min(j, i + 4) : j;
        edited("remove(" + i + ", " + j + ")", x.remove(i, j), remove(i, j)); break;
      case 4: editMove(i, j, within(j - i, n) ? around(n - (j - i)) : p); break;
      case 5: edited("copy(" + i + ", " + j + ", " + p + ")", x.copy(i, j, p), copy(i, j, p)); break;
      case 6: editStyle(i, j, around(15), s); break;
      case 7: editToggle(i, j, random.nextInt(8) == 0 ? around(8) : 1 << random.nextInt(3)); break;
      case 8: int d = around(25);
        edited("replace(" + c + ", " + d + ")", x.replace(c, d), replace(c, d)); break;
      default: edited("setFlag(" + p + ")", x.setFlag(p), setFlag(p));
    }
  }

  private void editPut(int p, int c, int k, int s) {
    edited("put(" + p + ", " + c + ", " + k + ", " + s + ")", x.put(p, c, k, s), put(p, c, k, s));
  }

  private void editMove(int i, int j, int p) {
    edited("move(" + i + ", " + j + ", " + p + ")", x.move(i, j, p), move(i, j, p));
  }

  private void editStyle(int i, int j, int mask, int s) {
    edited("style(" + i + ", " + j + ", " + mask + ", " + s + ")", x.style(i, j, mask, s), style(i, j, mask, s));
  }

  private void editToggle(int i, int j, int bit) {
    edited("toggle(" + i + ", " + j + ", " + bit + ")", x.toggle(i, j, bit), toggle(i, j, bit));
  }

  private void edited(String call, int got, int want) {
    due(call, got, want);
    calls.append(call).append(' ');
    due("length()", x.length(), text.size());
    due("flag()", x.flag(), flag);
    due("digest()", x.digest(), digest());
  }

  private int digest() {
    int sum = 0;
    for (int p = 0; p < text.size(); p++) sum += (p + 1) * (64 * text.get(p)[0] + text.get(p)[1]);
    return sum;
  }

  private void look() {
    int run = -1;
    for (int p = 0; p < text.size(); p++) {
      int style = text.get(p)[1];
      due("letter(" + p + ")", x.letter(p), text.get(p)[0]);
      due("styleAt(" + p + ")", x.styleAt(p), style);
      if (p == 0 || text.get(p - 1)[1] != style) {
        run++;
        due("runBegin(" + run + ")", x.runBegin(run), p);
        due("runStyle(" + run + ")", x.runStyle(run), style);
      }
      due("runOf(" + p + ")", x.runOf(p), run);
    }
    due("runs()", x.runs(), run + 1);
    due("runBegin(" + (run + 1) + ")", x.runBegin(run + 1), StyledText.NONE);
    due("runStyle(" + (run + 1) + ")", x.runStyle(run + 1), StyledText.NONE);
    for (int bits = 0; bits < 8; bits++) {
      int all = bits;
      int want = (int) text.stream().filter(character -> (character[1] & all) == all).count();
      due("having(" + bits + ")", x.having(bits), want);
    }
  }

  /** In turn, so that a thing which two objects share is seen as a wrong answer of one of them. */
  private static void editInTurn(ModelTest one, ModelTest other) {
    for (int count = 0; count < EDITS; count++) {
      one.edit();
      other.edit();
    }
    one.look();
    other.look();
  }

  public static void main(String[] args) {
    for (int seed = 0; seed < RUNS; seed += 2) editInTurn(new ModelTest(seed), new ModelTest(seed + 1));
    System.out.println(wrong == 0 ? "all answers are as due" : wrong + " answers are not as due");
    if (wrong != 0) System.exit(1);
  }
}
