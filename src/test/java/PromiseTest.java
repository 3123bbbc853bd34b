import java.util.function.IntSupplier;

/** Each promise of the document on ordinary inputs, at the edges it names, and on wrong inputs. */
public final class PromiseTest {
  private static final int BAD_ARG = StyledText.BAD_ARG;
  private static final int FULL = StyledText.FULL;
  private static final int NONE = StyledText.NONE;
  private static final int MIN = Integer.MIN_VALUE;
  private static final int MAX = Integer.MAX_VALUE;
  private static int wrong = 0;
  private static int promise = 0;

  private static void due(String what, Object got, Object want) {
    if (!got.equals(want)) {
      wrong++;
      System.out.println("promise " + promise + ": " + what + " answered " + got + ", due is " + want);
    }
  }

  private static void refused(StyledText x, String what, IntSupplier call, int code) {
    String before = shown(x);
    due(what, call.getAsInt(), code);
    due(what + ", the text after it,", shown(x), before);
  }

  /**
   * The text as "a0 b9 /1": letters a to z, each with its style, and behind the stroke the flag. A long text is told
   * by its digest, since an object is promised for 512 calls alone.
   */
  private static String shown(StyledText x) {
    int n = x.length();
    if (n > 16) {
      return n + " characters, digest " + x.digest() + " /" + x.flag();
    }
    StringBuilder text = new StringBuilder();
    for (int p = 0; p < n; p++) {
      text.append((char) ('a' + x.letter(p))).append(x.styleAt(p)).append(' ');
    }
    return text.append('/').append(x.flag()).toString();
  }

  /** An object that is shown as the given text. */
  private static StyledText made(String text) {
    StyledText x = new StyledText();
    for (String part : text.split(" ")) {
      int number = Integer.parseInt(part.substring(1));
      if (part.charAt(0) == '/') {
        x.setFlag(number);
      } else {
        x.put(x.length(), part.charAt(0) - 'a', 1, number);
      }
    }
    due("the text made", shown(x), text);
    return x;
  }

  private static StyledText full() {
    StyledText x = new StyledText();
    x.put(0, 7, 64, 21);
    x.setFlag(30);
    return x;
  }

  private static void newObject() {
    StyledText x = new StyledText();
    due("length of a new text", x.length(), 0);
    due("flag of a new text", x.flag(), 0);
    due("runs of a new text", x.runs(), 0);
    due("digest of a new text", x.digest(), 0);
    due("letter(0) of a new text", x.letter(0), NONE);
    x.put(0, 1, 5, 1);
    due("length of a second object", new StyledText().length(), 0);
    due("length of the first object", x.length(), 5);
  }

  private static void type() {
    StyledText x = new StyledText();
    due("type into the empty text", x.type(0, 25), 1);
    due("typed into the empty text", shown(x), "z0 /0");
    x = made("a9 b2 c4 /0");
    due("type at 0", x.type(0, 3), 4);
    due("typed at 0", shown(x), "d9 a9 b2 c4 /0");
    due("type within", x.type(3, 0), 5);
    due("typed within", shown(x), "d9 a9 b2 a2 c4 /0");
    due("type at the end", x.type(5, 25), 6);
    due("typed at the end", shown(x), "d9 a9 b2 a2 c4 z4 /0");
    x = made("a63 /0");
    x.remove(0, 1);
    x.type(0, 1);
    due("typed into the emptied text", shown(x), "b0 /0");
  }

  private static void typeAndFlag() {
    StyledText x = made("a1 b2 c3 /1");
    x.type(0, 4);
    due("typed before the flag", shown(x), "e1 a1 b2 c3 /2");
    x.type(2, 4);
    due("typed at the flag", shown(x), "e1 a1 e1 b2 c3 /2");
    x.type(3, 5);
    due("typed behind the flag", shown(x), "e1 a1 e1 f1 b2 c3 /2");
  }

  private static void typeRefused() {
    StyledText x = made("a1 b2 /1");
    refused(x, "type letter -1", () -> x.type(0, -1), BAD_ARG);
    refused(x, "type letter 26", () -> x.type(0, 26), BAD_ARG);
    refused(x, "type at -1", () -> x.type(-1, 0), BAD_ARG);
    refused(x, "type at n + 1", () -> x.type(3, 0), BAD_ARG);
    refused(x, "type at the least int", () -> x.type(MIN, 0), BAD_ARG);
    refused(x, "type at the greatest int", () -> x.type(MAX, MAX), BAD_ARG);
    StyledText full = full();
    refused(full, "type into the full text", () -> full.type(64, 0), FULL);
    refused(full, "type a wrong letter into the full text", () -> full.type(64, 26), BAD_ARG);
    refused(full, "type at 65 of the full text", () -> full.type(65, 0), BAD_ARG);
    full.remove(0, 1);
    due("type the 64th character", full.type(63, 0), 64);
  }

  private static void put() {
    StyledText x = new StyledText();
    due("put into the empty text", x.put(0, 25, 2, 63), 2);
    due("put 0 letters", x.put(1, 0, 0, 0), 2);
    due("the text after it", shown(x), "z63 z63 /0");
    due("put within", x.put(1, 0, 3, 0), 5);
    due("the text after it", shown(x), "z63 a0 a0 a0 z63 /0");
    due("put at the end", x.put(5, 1, 1, 8), 6);
    due("the text after it", shown(x), "z63 a0 a0 a0 z63 b8 /0");
    due("put at 0", x.put(0, 2, 2, 7), 8);
    due("the text after it", shown(x), "c7 c7 z63 a0 a0 a0 z63 b8 /0");
    due("put 64 letters", new StyledText().put(0, 3, 64, 5), 64);
    due("put 0 letters into the full text", full().put(64, 0, 0, 0), 64);
  }

  private static void putAndFlag() {
    StyledText x = made("a1 b2 c3 /2");
    x.put(1, 4, 2, 5);
    due("put before the flag", shown(x), "a1 e5 e5 b2 c3 /4");
    x.put(4, 6, 2, 7);
    due("put at the flag", shown(x), "a1 e5 e5 b2 g7 g7 c3 /4");
    x.put(7, 6, 1, 7);
    due("put behind the flag", shown(x), "a1 e5 e5 b2 g7 g7 c3 g7 /4");
    StyledText ended = made("a1 /1");
    ended.put(1, 0, 3, 1);
    due("put at the flag at the end", shown(ended), "a1 a1 a1 a1 /1");
  }

  private static void putRefused() {
    StyledText x = made("a1 b2 /1");
    refused(x, "put letter -1", () -> x.put(0, -1, 1, 0), BAD_ARG);
    refused(x, "put letter 26", () -> x.put(0, 26, 1, 0), BAD_ARG);
    refused(x, "put at -1", () -> x.put(-1, 0, 1, 0), BAD_ARG);
    refused(x, "put at n + 1", () -> x.put(3, 0, 1, 0), BAD_ARG);
    refused(x, "put 0 letters at n + 1", () -> x.put(3, 0, 0, 0), BAD_ARG);
    refused(x, "put -1 letters", () -> x.put(0, 0, -1, 0), BAD_ARG);
    refused(x, "put 65 letters", () -> x.put(0, 0, 65, 0), BAD_ARG);
    refused(x, "put the greatest int of letters", () -> x.put(0, 0, MAX, 0), BAD_ARG);
    refused(x, "put the least int of letters", () -> x.put(0, 0, MIN, 0), BAD_ARG);
    refused(x, "put style -1", () -> x.put(0, 0, 1, -1), BAD_ARG);
    refused(x, "put style 64", () -> x.put(0, 0, 1, 64), BAD_ARG);
    refused(x, "put style 64 on 0 letters", () -> x.put(0, 0, 0, 64), BAD_ARG);
    refused(x, "put 63 letters", () -> x.put(0, 0, 63, 0), FULL);
    refused(x, "put 64 letters", () -> x.put(2, 0, 64, 0), FULL);
    refused(x, "put 64 letters of style 64", () -> x.put(2, 0, 64, 64), BAD_ARG);
    due("put 62 letters", x.put(0, 0, 62, 0), 64);
    refused(x, "put 1 letter into the full text", () -> x.put(0, 0, 1, 0), FULL);
  }

  private static void remove() {
    StyledText x = made("a1 b2 c3 d4 e5 /0");
    due("remove nothing", x.remove(2, 2), 5);
    due("the text after it", shown(x), "a1 b2 c3 d4 e5 /0");
    due("remove nothing at the end", x.remove(5, 5), 5);
    due("remove within", x.remove(1, 3), 3);
    due("the text after it", shown(x), "a1 d4 e5 /0");
    due("remove the last", x.remove(2, 3), 2);
    due("the text after it", shown(x), "a1 d4 /0");
    due("remove all", x.remove(0, 2), 0);
    due("the text after it", shown(x), "/0");
    due("remove nothing of nothing", x.remove(0, 0), 0);
    due("remove all of the full text", full().remove(0, 64), 0);
  }

  private static void removeAndFlag() {
    int[] flagAfter = {0, 1, 1, 1, 1, 2};
    for (int g = 0; g <= 5; g++) {
      StyledText x = made("a1 b2 c3 d4 e5 /" + g);
      x.remove(1, 4);
      due("the text with the flag at " + g + " after remove(1, 4)", shown(x), "a1 e5 /" + flagAfter[g]);
      StyledText y = made("a1 b2 c3 d4 e5 /" + g);
      y.remove(3, 3);
      due("the text after remove(3, 3)", shown(y), "a1 b2 c3 d4 e5 /" + g);
    }
  }

  private static void removeRefused() {
    StyledText x = made("a1 b2 c3 /2");
    refused(x, "remove(-1, 2)", () -> x.remove(-1, 2), BAD_ARG);
    refused(x, "remove(2, 1)", () -> x.remove(2, 1), BAD_ARG);
    refused(x, "remove(0, 4)", () -> x.remove(0, 4), BAD_ARG);
    refused(x, "remove(4, 4)", () -> x.remove(4, 4), BAD_ARG);
    refused(x, "remove(-1, -1)", () -> x.remove(-1, -1), BAD_ARG);
    refused(x, "remove(least, greatest)", () -> x.remove(MIN, MAX), BAD_ARG);
    refused(x, "remove(greatest, least)", () -> x.remove(MAX, MIN), BAD_ARG);
  }

  private static void move() {
    StyledText x = made("a1 b2 c3 d4 e5 /0");
    due("move to the right", x.move(1, 3, 2), 0);
    due("the text after it", shown(x), "a1 d4 b2 c3 e5 /0");
    due("move to the end", x.move(0, 2, 3), 0);
    due("the text after it", shown(x), "b2 c3 e5 a1 d4 /0");
    due("move to the left", x.move(2, 5, 0), 0);
    due("the text after it", shown(x), "e5 a1 d4 b2 c3 /0");
    due("move to where it stands", x.move(1, 4, 1), 0);
    due("the text after it", shown(x), "e5 a1 d4 b2 c3 /0");
    due("move nothing", x.move(2, 2, 5), 0);
    due("move all", x.move(0, 5, 0), 0);
    due("the text after it", shown(x), "e5 a1 d4 b2 c3 /0");
    due("move in the full text", full().move(0, 63, 1), 0);
    due("move nothing of nothing", new StyledText().move(0, 0, 0), 0);
  }

  private static void moveAndFlag() {
    int[] toLeft = {0, 3, 3, 3, 4, 5};
    int[] toItself = {0, 1, 1, 1, 4, 5};
    int[] toRight = {0, 1, 1, 1, 2, 5};
    int[] nothing = {0, 1, 2, 3, 4, 5};
    for (int g = 0; g <= 5; g++) {
      due("the flag at " + g + " after move(1, 3, 0)", flagAfterMove(g, 1, 3, 0), toLeft[g]);
      due("the flag at " + g + " after move(1, 3, 1)", flagAfterMove(g, 1, 3, 1), toItself[g]);
      due("the flag at " + g + " after move(1, 3, 2)", flagAfterMove(g, 1, 3, 2), toRight[g]);
      due("the flag at " + g + " after move(3, 3, 0)", flagAfterMove(g, 3, 3, 0), nothing[g]);
    }
  }

  private static int flagAfterMove(int g, int i, int j, int p) {
    StyledText x = made("a1 b2 c3 d4 e5 /" + g);
    x.move(i, j, p);
    return x.flag();
  }

  private static void moveRefused() {
    StyledText x = made("a1 b2 c3 d4 /2");
    refused(x, "move(-1, 2, 0)", () -> x.move(-1, 2, 0), BAD_ARG);
    refused(x, "move(3, 2, 0)", () -> x.move(3, 2, 0), BAD_ARG);
    refused(x, "move(2, 5, 0)", () -> x.move(2, 5, 0), BAD_ARG);
    refused(x, "move(1, 3, -1)", () -> x.move(1, 3, -1), BAD_ARG);
    refused(x, "move(1, 3, 3)", () -> x.move(1, 3, 3), BAD_ARG);
    refused(x, "move(0, 4, 1)", () -> x.move(0, 4, 1), BAD_ARG);
    refused(x, "move(1, 1, 5)", () -> x.move(1, 1, 5), BAD_ARG);
    refused(x, "move(1, 3, least)", () -> x.move(1, 3, MIN), BAD_ARG);
    refused(x, "move(least, greatest, 0)", () -> x.move(MIN, MAX, 0), BAD_ARG);
  }

  private static void copy() {
    StyledText x = made("a1 b2 c3 /0");
    due("copy to 0", x.copy(1, 3, 0), 5);
    due("the text after it", shown(x), "b2 c3 a1 b2 c3 /0");
    due("copy to the end", x.copy(1, 3, 5), 7);
    due("the text after it", shown(x), "b2 c3 a1 b2 c3 c3 a1 /0");
    x = made("a1 b2 c3 d4 /0");
    due("copy into itself", x.copy(0, 4, 2), 8);
    due("the text after it", shown(x), "a1 b2 a1 b2 c3 d4 c3 d4 /0");
    x = made("a1 b2 c3 /0");
    due("copy to its own begin", x.copy(1, 3, 1), 5);
    due("the text after it", shown(x), "a1 b2 c3 b2 c3 /0");
    due("copy nothing", x.copy(2, 2, 4), 5);
    due("copy nothing of nothing", new StyledText().copy(0, 0, 0), 0);
    due("copy nothing in the full text", full().copy(3, 3, 64), 64);
  }

  private static void copyAndFlag() {
    int[] flagAfter = {0, 1, 4, 5};
    for (int g = 0; g <= 3; g++) {
      StyledText x = made("a1 b2 c3 /" + g);
      x.copy(0, 2, 1);
      due("the text with the flag at " + g + " after copy(0, 2, 1)", shown(x), "a1 a1 b2 b2 c3 /" + flagAfter[g]);
    }
  }

  private static void copyRefused() {
    StyledText x = made("a1 b2 c3 /2");
    refused(x, "copy(-1, 2, 0)", () -> x.copy(-1, 2, 0), BAD_ARG);
    refused(x, "copy(3, 2, 0)", () -> x.copy(3, 2, 0), BAD_ARG);
    refused(x, "copy(2, 4, 0)", () -> x.copy(2, 4, 0), BAD_ARG);
    refused(x, "copy(1, 2, -1)", () -> x.copy(1, 2, -1), BAD_ARG);
    refused(x, "copy(1, 2, 4)", () -> x.copy(1, 2, 4), BAD_ARG);
    refused(x, "copy(1, 1, 4)", () -> x.copy(1, 1, 4), BAD_ARG);
    refused(x, "copy(least, greatest, 0)", () -> x.copy(MIN, MAX, 0), BAD_ARG);
    StyledText full = full();
    refused(full, "copy in the full text", () -> full.copy(0, 1, 64), FULL);
    refused(full, "copy to 65 of the full text", () -> full.copy(0, 1, 65), BAD_ARG);
    refused(full, "copy no stretch of the full text", () -> full.copy(0, 65, 0), BAD_ARG);
    full.remove(0, 32);
    due("copy 32 characters of 32", full.copy(0, 32, 16), 64);
    full.remove(0, 31);
    refused(full, "copy 32 characters of 33", () -> full.copy(0, 32, 0), FULL);
  }

  private static void style() {
    for (int old = 0; old < 64; old++) {
      for (int mask = 0; mask < 16; mask++) {
        for (int s = 0; s < 64; s++) {
          StyledText x = new StyledText();
          x.put(0, 3, 1, old);
          int want = mask % 8 & s | ~mask & 7 & old;
          want += mask >= 8 ? s / 8 * 8 : old / 8 * 8;
          String call = "style(0, 1, " + mask + ", " + s + ") on style " + old;
          due(call, x.style(0, 1, mask, s), want == old ? 0 : 1);
          due("styleAt after " + call, x.styleAt(0), want);
        }
      }
    }
  }

  private static void styleOfStretch() {
    StyledText x = made("a0 b1 c2 d3 e0 /2");
    due("style within", x.style(1, 4, 1, 63), 1);
    due("the text after it", shown(x), "a0 b1 c3 d3 e0 /2");
    due("style all", x.style(0, 5, 8, 23), 5);
    due("the text after it", shown(x), "a16 b17 c19 d19 e16 /2");
    due("style it so again", x.style(0, 5, 8, 16), 0);
    due("style nothing", x.style(3, 3, 15, 63), 0);
    due("style by no part", x.style(0, 5, 0, 63), 0);
    due("the text after it", shown(x), "a16 b17 c19 d19 e16 /2");
    due("style nothing of nothing", new StyledText().style(0, 0, 15, 63), 0);
  }

  private static void styleRefused() {
    StyledText x = made("a0 b1 c2 /2");
    refused(x, "style(-1, 2, 1, 1)", () -> x.style(-1, 2, 1, 1), BAD_ARG);
    refused(x, "style(2, 1, 1, 1)", () -> x.style(2, 1, 1, 1), BAD_ARG);
    refused(x, "style(0, 4, 1, 1)", () -> x.style(0, 4, 1, 1), BAD_ARG);
    refused(x, "style(least, greatest, 1, 1)", () -> x.style(MIN, MAX, 1, 1), BAD_ARG);
    refused(x, "style(0, 3, -1, 1)", () -> x.style(0, 3, -1, 1), BAD_ARG);
    refused(x, "style(0, 3, 16, 1)", () -> x.style(0, 3, 16, 1), BAD_ARG);
    refused(x, "style(0, 3, 15, -1)", () -> x.style(0, 3, 15, -1), BAD_ARG);
    refused(x, "style(0, 3, 15, 64)", () -> x.style(0, 3, 15, 64), BAD_ARG);
    refused(x, "style(1, 1, 0, 64)", () -> x.style(1, 1, 0, 64), BAD_ARG);
    refused(x, "style(1, 1, 16, 0)", () -> x.style(1, 1, 16, 0), BAD_ARG);
  }

  private static void toggle() {
    for (int bit = 1; bit <= 4; bit *= 2) {
      StyledText x = made("a0 b" + bit + " c63 d0 /1");
      due("toggle where some have it", x.toggle(0, 3, bit), 1);
      due("the text after it", shown(x), "a" + bit + " b" + bit + " c63 d0 /1");
      due("toggle where all have it", x.toggle(1, 3, bit), 0);
      due("the text after it", shown(x), "a" + bit + " b0 c" + (63 - bit) + " d0 /1");
      due("toggle where none has it", x.toggle(1, 4, bit), 1);
      due("the text after it", shown(x), "a" + bit + " b" + bit + " c63 d" + bit + " /1");
      due("toggle nothing", x.toggle(2, 2, bit), 0);
      due("the text after it", shown(x), "a" + bit + " b" + bit + " c63 d" + bit + " /1");
      due("toggle nothing of nothing", new StyledText().toggle(0, 0, bit), 0);
    }
    StyledText last = made("a1 b1 c0 /0");
    due("toggle where only the last lacks it", last.toggle(0, 3, 1), 1);
    due("the text after it", shown(last), "a1 b1 c1 /0");
  }

  private static void toggleRefused() {
    StyledText x = made("a0 b1 c2 /2");
    refused(x, "toggle(-1, 2, 1)", () -> x.toggle(-1, 2, 1), BAD_ARG);
    refused(x, "toggle(2, 1, 1)", () -> x.toggle(2, 1, 1), BAD_ARG);
    refused(x, "toggle(0, 4, 1)", () -> x.toggle(0, 4, 1), BAD_ARG);
    refused(x, "toggle(least, greatest, 1)", () -> x.toggle(MIN, MAX, 1), BAD_ARG);
    for (int bit : new int[] {MIN, -1, 0, 3, 5, 6, 7, 8, 16, MAX}) {
      refused(x, "toggle(0, 3, " + bit + ")", () -> x.toggle(0, 3, bit), BAD_ARG);
      refused(x, "toggle(1, 1, " + bit + ")", () -> x.toggle(1, 1, bit), BAD_ARG);
    }
  }

  private static void replace() {
    StyledText x = made("a1 b2 a3 c4 a5 /2");
    due("replace(0, 25)", x.replace(0, 25), 3);
    due("the text after it", shown(x), "z1 b2 z3 c4 z5 /2");
    due("replace a letter that isn't there", x.replace(0, 1), 0);
    due("replace a letter by itself", x.replace(25, 25), 3);
    due("replace by one that is there", x.replace(2, 1), 1);
    due("the text after it", shown(x), "z1 b2 z3 b4 z5 /2");
    due("replace in the empty text", new StyledText().replace(0, 1), 0);
    x.remove(0, 5);
    due("replace in the emptied text", x.replace(25, 1), 0);
    StyledText y = made("a1 b2 /2");
    refused(y, "replace(-1, 0)", () -> y.replace(-1, 0), BAD_ARG);
    refused(y, "replace(26, 0)", () -> y.replace(26, 0), BAD_ARG);
    refused(y, "replace(0, -1)", () -> y.replace(0, -1), BAD_ARG);
    refused(y, "replace(0, 26)", () -> y.replace(0, 26), BAD_ARG);
    refused(y, "replace(least, greatest)", () -> y.replace(MIN, MAX), BAD_ARG);
  }

  private static void length() {
    StyledText x = new StyledText();
    for (int n = 1; n <= 64; n++) {
      x.type(n / 2, 1);
      due("length", x.length(), n);
    }
    x.remove(10, 20);
    due("length after remove", x.length(), 54);
    x.move(0, 9, 40);
    due("length after move", x.length(), 54);
    x.copy(0, 10, 40);
    due("length after copy", x.length(), 64);
  }

  private static void letterAndStyleAt() {
    StyledText x = made("a63 z0 /2");
    promise = 11;
    due("letter(0)", x.letter(0), 0);
    due("letter(1)", x.letter(1), 25);
    promise = 12;
    due("styleAt(0)", x.styleAt(0), 63);
    due("styleAt(1)", x.styleAt(1), 0);
    for (int p : new int[] {MIN, -1, 2, 63, 64, MAX}) {
      promise = 11;
      refused(x, "letter(" + p + ")", () -> x.letter(p), NONE);
      promise = 12;
      refused(x, "styleAt(" + p + ")", () -> x.styleAt(p), NONE);
    }
    StyledText full = full();
    promise = 11;
    due("letter(63)", full.letter(63), 7);
    due("letter(64)", full.letter(64), NONE);
    promise = 12;
    due("styleAt(63)", full.styleAt(63), 21);
    due("styleAt(64)", full.styleAt(64), NONE);
    full.remove(5, 64);
    due("styleAt(5) once removed", full.styleAt(5), NONE);
    promise = 11;
    due("letter(5) once removed", full.letter(5), NONE);
  }

  /** Checks the four calls about runs against the places at which the runs should begin. */
  private static void runsAre(StyledText x, int... begins) {
    String text = shown(x);
    promise = 13;
    due("runs of " + text, x.runs(), begins.length);
    for (int r = 0; r < begins.length; r++) {
      promise = 14;
      due("runBegin(" + r + ") of " + text, x.runBegin(r), begins[r]);
      promise = 15;
      due("runStyle(" + r + ") of " + text, x.runStyle(r), x.styleAt(begins[r]));
      promise = 16;
      int end = r + 1 < begins.length ? begins[r + 1] : x.length();
      for (int p = begins[r]; p < end; p++) {
        due("runOf(" + p + ") of " + text, x.runOf(p), r);
      }
    }
    noOtherRuns(x, text, begins.length);
    due("the text after the calls about runs", shown(x), text);
  }

  private static void noOtherRuns(StyledText x, String text, int runs) {
    for (int r : new int[] {MIN, -4, -1, runs, 64, MAX}) {
      promise = 14;
      due("runBegin(" + r + ") of " + text, x.runBegin(r), NONE);
      promise = 15;
      due("runStyle(" + r + ") of " + text, x.runStyle(r), NONE);
    }
    promise = 16;
    for (int p : new int[] {MIN, -1, x.length(), 64, MAX}) {
      due("runOf(" + p + ") of " + text, x.runOf(p), NONE);
    }
  }

  private static void runsOfTexts() {
    runsAre(new StyledText());
    runsAre(made("a0 /0"), 0);
    runsAre(made("a5 b5 a5 /3"), 0);
    runsAre(made("a1 a1 a2 a1 a1 a0 /0"), 0, 2, 3, 5);
    runsAre(made("a0 a8 a16 /0"), 0, 1, 2);
    runsAre(made("a63 b63 c62 /0"), 0, 2);
    runsAre(full(), 0);
    StyledText joined = made("a1 b2 c1 /0");
    joined.remove(1, 2);
    runsAre(joined, 0);
    StyledText most = new StyledText();
    int[] begins = new int[64];
    for (int p = 0; p < 64; p++) {
      most.put(p, 0, 1, p);
      begins[p] = p;
    }
    runsAre(most, begins);
    most.remove(0, 64);
    runsAre(most);
  }

  private static void having() {
    StyledText x = new StyledText();
    for (int s = 0; s < 64; s++) {
      x.put(s, 4, 1, s);
    }
    int[] want = {64, 32, 32, 16, 32, 16, 16, 8};
    for (int bits = 0; bits < 8; bits++) {
      due("having(" + bits + ")", x.having(bits), want[bits]);
      due("having(" + bits + ") of the empty text", new StyledText().having(bits), 0);
    }
    for (int bits : new int[] {MIN, -1, 8, 9, MAX}) {
      refused(x, "having(" + bits + ")", () -> x.having(bits), BAD_ARG);
    }
    x.remove(0, 64);
    due("having(0) of the emptied text", x.having(0), 0);
  }

  private static void setFlagAndFlag() {
    StyledText x = made("a1 b2 c3 /0");
    promise = 18;
    due("setFlag(3)", x.setFlag(3), 0);
    due("setFlag(1)", x.setFlag(1), 3);
    due("setFlag(1) again", x.setFlag(1), 1);
    due("the text after it", shown(x), "a1 b2 c3 /1");
    promise = 19;
    due("flag()", x.flag(), 1);
    due("flag() again", x.flag(), 1);
    promise = 18;
    for (int g : new int[] {MIN, -1, 4, 64, MAX}) {
      refused(x, "setFlag(" + g + ")", () -> x.setFlag(g), BAD_ARG);
    }
    due("setFlag(0)", x.setFlag(0), 1);
    due("setFlag(0) of the empty text", new StyledText().setFlag(0), 0);
    StyledText full = full();
    due("setFlag(64)", full.setFlag(64), 30);
    promise = 19;
    due("flag() at the end of the full text", full.flag(), 64);
  }

  private static void digest() {
    due("digest of the empty text", new StyledText().digest(), 0);
    due("digest of one character", made("b5 /0").digest(), 69);
    due("digest of three", made("a1 b2 z63 /2").digest(), 1 + 2 * 66 + 3 * 1663);
    StyledText most = new StyledText();
    most.put(0, 25, 64, 63);
    due("the greatest digest", most.digest(), 2080 * 1663);
    most.setFlag(9);
    due("the digest with another flag", most.digest(), 2080 * 1663);
    most.remove(1, 64);
    due("the digest once removed", most.digest(), 1663);
  }

  private static void checkEdits() {
    promise = 1;
    newObject();
    promise = 2;
    type();
    typeAndFlag();
    typeRefused();
    promise = 3;
    put();
    putAndFlag();
    putRefused();
    promise = 4;
    remove();
    removeAndFlag();
    removeRefused();
    promise = 5;
    move();
    moveAndFlag();
    moveRefused();
    promise = 6;
    copy();
    copyAndFlag();
    copyRefused();
  }

  private static void checkStylesAndLooks() {
    promise = 7;
    style();
    styleOfStretch();
    styleRefused();
    promise = 8;
    toggle();
    toggleRefused();
    promise = 9;
    replace();
    promise = 10;
    length();
    letterAndStyleAt();
    runsOfTexts();
    promise = 17;
    having();
    setFlagAndFlag();
    promise = 20;
    digest();
  }

  public static void main(String[] args) {
    checkEdits();
    checkStylesAndLooks();
    System.out.println(wrong == 0 ? "all answers are as due" : wrong + " answers are not as due");
    if (wrong != 0) System.exit(1);
  }
}
