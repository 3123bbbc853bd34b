import java.util.Arrays;

/**
 * Each sentence of the document that names a boundary case, in the order of the document, with a test of its own.
 * The rows that follow a sentence() belong to it: a text, a call on it, the answer that is due and the text after it.
 * Words behind a colon within the quoted sentence name the case of it that the rows are about.
 */
public final class BoundaryTest {
  // Written as numbers, so that a constant with another value is seen as a wrong answer.
  private static final int BAD_ARG = -1;
  private static final int FULL = -2;
  private static final int NONE = -4;
  // No call answers this.
  private static final int THREW = -999;
  private static final int LEAST = Integer.MIN_VALUE;
  private static final int GREATEST = Integer.MAX_VALUE;

  // A text is written as "a1 b3 /2": letters a to z, each with its style, and behind the stroke the flag.
  private static final String EMPTY = "/0";
  private static final String SOME = "a1 b3 c5 d63 /2";
  private static final String FULL_TEXT = fullPart(0, 64) + "/30";

  private static String sentence = "";
  private static int sentences = 0;
  private static int rows = 0;
  private static int rowsOfSentence = 0;
  private static int faultsOfSentence = 0;
  private static int wrong = 0;

  /** An object with a count of its calls, since it is promised for 512 of them alone. */
  private static final class Subject {
    private final StyledText x = new StyledText();
    private int calls = 0;

    int callAs(String words) {
      int open = words.indexOf('(');
      String inside = words.substring(open + 1, words.length() - 1);
      String[] parts = inside.isEmpty() ? new String[0] : inside.split(", ");
      return call(words.substring(0, open), Arrays.stream(parts).mapToInt(BoundaryTest::number).toArray());
    }

    int call(String name, int... a) {
      calls++;
      try {
        return answer(name, a);
      } catch (RuntimeException | StackOverflowError thrown) {
        System.out.println(name + Arrays.toString(a) + " threw " + thrown);
        return THREW;
      }
    }

    private int answer(String name, int... a) {
      switch (name) {
        case "type": return x.type(a[0], a[1]);
        case "put": return x.put(a[0], a[1], a[2], a[3]);
        case "remove": return x.remove(a[0], a[1]);
        case "move": return x.move(a[0], a[1], a[2]);
        case "copy": return x.copy(a[0], a[1], a[2]);
        case "style": return x.style(a[0], a[1], a[2], a[3]);
        case "toggle": return x.toggle(a[0], a[1], a[2]);
        case "replace": return x.replace(a[0], a[1]);
        case "length": return x.length();
        case "letter": return x.letter(a[0]);
        case "styleAt": return x.styleAt(a[0]);
        case "runs": return x.runs();
        case "runBegin": return x.runBegin(a[0]);
        case "runStyle": return x.runStyle(a[0]);
        case "runOf": return x.runOf(a[0]);
        case "having": return x.having(a[0]);
        case "setFlag": return x.setFlag(a[0]);
        case "flag": return x.flag();
        case "digest": return x.digest();
        default: throw new IllegalArgumentException("no such call: " + name);
      }
    }

    String shown() {
      StringBuilder text = new StringBuilder();
      int n = call("length");
      for (int p = 0; p < n; p++) {
        text.append((char) ('a' + call("letter", p))).append(call("styleAt", p)).append(' ');
      }
      return text.append('/').append(call("flag")).toString();
    }
  }

  private static int number(String word) {
    return word.equals("least") ? LEAST : word.equals("greatest") ? GREATEST : Integer.parseInt(word);
  }

  private static Subject made(String text) {
    Subject x = new Subject();
    int n = 0;
    for (String part : text.split(" ")) {
      int number = Integer.parseInt(part.substring(1));
      if (part.charAt(0) == '/') {
        x.call("setFlag", number);
      } else {
        x.call("put", n++, part.charAt(0) - 'a', 1, number);
      }
    }
    return x;
  }

  /** The places i to j - 1 of a full text in which no two characters are alike. */
  private static String fullPart(int i, int j) {
    StringBuilder part = new StringBuilder();
    for (int p = i; p < j; p++) part.append((char) ('a' + p * 7 % 26)).append(p).append(' ');
    return part.toString();
  }

  private static String times(int count, String character) {
    return (character + " ").repeat(count);
  }

  private static void sentence(String where, String words) {
    noteEmptySentence();
    sentence = where + ": '" + words + "'";
    sentences++;
    rowsOfSentence = 0;
    faultsOfSentence = 0;
  }

  private static void noteEmptySentence() {
    if (sentences > 0 && rowsOfSentence == 0) fault("this sentence has no test");
  }

  private static void fault(String what) {
    wrong++;
    // A few of each sentence tell what is broken; one fault in the class can fail thousands of checks.
    if (faultsOfSentence++ < 5) System.out.println(sentence + ": " + what);
  }

  private static void due(String what, Object got, Object want) {
    rows++;
    rowsOfSentence++;
    if (!got.equals(want)) fault(what + " is " + got + ", due is " + want);
  }

  private static void row(String text, String call, int want, String after) {
    Subject x = made(text);
    due("the text made", x.shown(), text);
    due("on " + text + " the answer of " + call, x.callAs(call), want);
    due("on " + text + " the text after " + call, x.shown(), after);
    due("that the object had at most 512 calls", x.calls <= 512, true);
  }

  /** A call that answers and leaves the text, the styles and the flag as they were. */
  private static void look(String text, String call, int want) {
    row(text, call, want, text);
  }

  private static void refused(String text, int code, String... calls) {
    for (String call : calls) look(text, call, code);
  }

  private static void flagAfter(String text, String call, int want) {
    Subject x = made(text);
    x.callAs(call);
    due("on " + text + " the flag after " + call, x.call("flag"), want);
  }

  // ---- What it is ----

  private static void whatItIs() {
    sentence("What it is (promises 1 to 20)", "An object is used for at most 512 calls after it has been made");
    String[] last = {
        "type(3, 1) 4", "put(0, 0, 61, 0) 64", "put(0, 0, 62, 0) -2", "remove(0, 3) 0", "move(0, 1, 2) 0",
        "copy(0, 3, 3) 6", "style(0, 3, 15, 0) 3", "toggle(0, 3, 1) 1", "replace(3, 4) 2", "length() 3", "letter(2) 4",
        "styleAt(2) 6", "runs() 2", "runBegin(1) 2", "runStyle(1) 6", "runOf(2) 1", "having(1) 2", "setFlag(3) 2",
        "flag() 2", "digest() 1389"};
    for (String callAndAnswer : last) {
      int space = callAndAnswer.lastIndexOf(' ');
      Subject x = usedFor511Calls();
      int want = Integer.parseInt(callAndAnswer.substring(space + 1));
      due("the 512th call " + callAndAnswer.substring(0, space), x.callAs(callAndAnswer.substring(0, space)), want);
    }
    manyFillings();
    manyRefusals();
  }

  /** The text is "d9 d9 e6 /2" again after each round of four calls. */
  private static Subject usedFor511Calls() {
    Subject x = made("d9 d9 e6 /2");
    x.callAs("flag()");
    x.callAs("length()");
    x.callAs("runs()");
    while (x.calls < 511) {
      due("call " + x.calls + " type(0, 7)", x.callAs("type(0, 7)"), 4);
      due("call " + x.calls + " copy(0, 1, 3)", x.callAs("copy(0, 1, 3)"), 5);
      due("call " + x.calls + " remove(3, 4)", x.callAs("remove(3, 4)"), 4);
      due("call " + x.calls + " remove(0, 1)", x.callAs("remove(0, 1)"), 3);
    }
    due("the calls before the last", x.calls, 511);
    return x;
  }

  private static void manyFillings() {
    Subject x = new Subject();
    for (int round = 0; round < 255; round++) {
      due("filling " + round, x.callAs("put(0, 25, 64, 63)"), 64);
      due("emptying " + round, x.callAs("remove(0, 64)"), 0);
    }
    due("the 511th call put", x.callAs("put(0, 25, 64, 63)"), 64);
    due("the 512th call digest", x.callAs("digest()"), 3459040);
  }

  private static void manyRefusals() {
    Subject x = new Subject();
    for (int round = 0; round < 511; round++) due("refusal " + round, x.callAs("type(0, 26)"), BAD_ARG);
    due("the 512th call type", x.callAs("type(0, 25)"), 1);
  }

  // ---- Terms ----

  private static void textLetterStyle() {
    sentence("Terms (promises 2, 3, 6, 10)", "The TEXT has n characters, 0 <= n <= 64");
    look(EMPTY, "length()", 0);
    look(FULL_TEXT, "length()", 64);
    row(fullPart(0, 63) + "/0", "type(63, 0)", 64, fullPart(0, 63) + "a62 /0");
    row("a1 /1", "remove(0, 1)", 0, EMPTY);
    refused(FULL_TEXT, FULL, "type(64, 0)", "put(64, 0, 1, 0)", "copy(0, 1, 64)");

    sentence("Terms (promises 11, 12, 16)", "at the places 0 to n - 1");
    for (String name : new String[] {"letter", "styleAt", "runOf"}) {
      look("a0 z0 /0", name + "(0)", 0);
      look("z63 a0 a63 /0", name + "(2)", name.equals("letter") ? 0 : name.equals("runOf") ? 2 : 63);
      refused(SOME, NONE, name + "(-1)", name + "(4)", name + "(least)", name + "(greatest)");
    }

    sentence("Terms (promises 2, 3, 9)", "a character has a LETTER, 0 to 25");
    row(EMPTY, "type(0, 0)", 1, "a0 /0");
    row(EMPTY, "type(0, 25)", 1, "z0 /0");
    row(EMPTY, "put(0, 0, 1, 9)", 1, "a9 /0");
    row(EMPTY, "put(0, 25, 1, 9)", 1, "z9 /0");
    row("a1 z2 /0", "replace(0, 25)", 1, "z1 z2 /0");
    row("a1 z2 /0", "replace(25, 0)", 1, "a1 a2 /0");
    for (String c : new String[] {"-1", "26", "least", "greatest"}) {
      refused(SOME, BAD_ARG, "type(0, " + c + ")", "put(0, " + c + ", 1, 0)", "replace(" + c + ", 0)",
          "replace(0, " + c + ")");
    }

    sentence("Terms (promises 3, 7, 12)", "and a STYLE, a number 0 to 63");
    row(EMPTY, "put(0, 4, 1, 0)", 1, "e0 /0");
    row(EMPTY, "put(0, 4, 1, 63)", 1, "e63 /0");
    row("e63 /0", "style(0, 1, 15, 0)", 1, "e0 /0");
    row("e0 /0", "style(0, 1, 15, 63)", 1, "e63 /0");
    for (String s : new String[] {"-1", "64", "least", "greatest"}) {
      refused(SOME, BAD_ARG, "put(0, 0, 1, " + s + ")", "style(0, 4, 15, " + s + ")");
    }
  }

  private static void partsOfStyle() {
    sentence("Terms (promises 7, 8, 17)",
        "the sum of 1 if it is bold, 2 if it is slanted, 4 if it is underlined, and 8 times its size, 0 to 7");
    for (int bit = 1; bit <= 4; bit *= 2) {
      row("a56 /0", "toggle(0, 1, " + bit + ")", 1, "a" + (56 + bit) + " /0");
      row("a7 /0", "toggle(0, 1, " + bit + ")", 0, "a" + (7 - bit) + " /0");
      row("a63 /0", "toggle(0, 1, " + bit + ")", 0, "a" + (63 - bit) + " /0");
      row("a0 /0", "toggle(0, 1, " + bit + ")", 1, "a" + bit + " /0");
      look("a56 b" + (56 + bit) + " c" + bit + " /0", "having(" + bit + ")", 2);
    }
    row("a7 /0", "style(0, 1, 8, 63)", 1, "a63 /0");
    row("a63 /0", "style(0, 1, 8, 7)", 1, "a7 /0");
    row("a63 /0", "style(0, 1, 7, 56)", 1, "a56 /0");
    row("a0 /0", "style(0, 1, 8, 8)", 1, "a8 /0");
  }

  /** The five calls with a stretch, the other arguments being in their ranges for every text. */
  private static String[] callsWithStretch(String stretch) {
    return new String[] {"remove(" + stretch + ")", "move(" + stretch + ", 0)", "copy(" + stretch + ", 0)",
        "style(" + stretch + ", 15, 0)", "toggle(" + stretch + ", 1)"};
  }

  private static void noStretch(String text, String... stretches) {
    for (String stretch : stretches) refused(text, BAD_ARG, callsWithStretch(stretch));
  }

  /** Answers of the five calls on a text of n bold characters. */
  private static void isStretch(String text, int n, int i, int j) {
    String[] calls = callsWithStretch(i + ", " + j);
    int m = j - i;
    int[] want = {n - m, 0, n + m <= 64 ? n + m : FULL, m, 0};
    for (int k = 0; k < calls.length; k++) {
      due("on " + text + " the answer of " + calls[k], made(text).callAs(calls[k]), want[k]);
    }
  }

  private static void stretch() {
    String bold = times(64, "q1") + "/30";
    sentence("Terms (promises 4 to 8)", "The STRETCH (i, j), 0 <= i");
    isStretch(SOME, 4, 0, 2);
    isStretch(bold, 64, 0, 64);
    noStretch(SOME, "-1, 2", "-1, -1", "-1, 4", "least, 2", "least, least", "least, greatest");
    noStretch(FULL_TEXT, "-1, 0", "-1, 64");

    sentence("Terms (promises 4 to 8)", "The STRETCH (i, j), i <= j");
    isStretch(SOME, 4, 1, 2);
    isStretch(SOME, 4, 2, 2);
    noStretch(SOME, "1, 0", "2, 1", "4, 3", "4, 0", "0, -1", "greatest, 4", "0, least", "1, least", "greatest, least");
    noStretch(FULL_TEXT, "64, 63", "64, 0");

    sentence("Terms (promises 4 to 8)", "The STRETCH (i, j), j <= n");
    isStretch(SOME, 4, 3, 4);
    isStretch(SOME, 4, 4, 4);
    isStretch(bold, 64, 64, 64);
    noStretch(SOME, "0, 5", "4, 5", "5, 5", "0, 64", "0, greatest", "greatest, greatest");
    noStretch(FULL_TEXT, "0, 65", "64, 65", "65, 65");

    sentence("Terms (promises 4 to 8)", "The STRETCH (i, j), 0 <= i <= j <= n: of the empty text (0, 0) alone");
    isStretch(EMPTY, 0, 0, 0);
    noStretch(EMPTY, "0, 1", "1, 1", "1, 0", "-1, 0", "-1, -1", "0, -1", "least, least", "0, greatest");
  }

  private static void charactersOfStretch() {
    sentence("Terms (promises 4 to 8)", "is the characters at the places i to j - 1");
    row(SOME, "remove(1, 3)", 2, "a1 d63 /1");
    row(SOME, "move(1, 3, 0)", 0, "b3 c5 a1 d63 /3");
    row(SOME, "copy(1, 3, 0)", 6, "b3 c5 a1 b3 c5 d63 /4");
    row(SOME, "style(1, 3, 15, 0)", 2, "a1 b0 c0 d63 /2");
    row(SOME, "toggle(1, 3, 1)", 0, "a1 b2 c4 d63 /2");

    sentence("Terms (promises 4 to 8)", "is the characters at the places i to j - 1: none if i = j");
    for (int i = 0; i <= 4; i++) {
      look(SOME, "remove(" + i + ", " + i + ")", 4);
      look(SOME, "style(" + i + ", " + i + ", 15, 0)", 0);
      look(SOME, "toggle(" + i + ", " + i + ", 1)", 0);
      for (int p = 0; p <= 4; p++) {
        look(SOME, "move(" + i + ", " + i + ", " + p + ")", 0);
        look(SOME, "copy(" + i + ", " + i + ", " + p + ")", 4);
      }
    }
    for (String at : new String[] {"0, 0", "30, 30", "64, 64"}) {
      look(FULL_TEXT, "remove(" + at + ")", 64);
      look(FULL_TEXT, "move(" + at + ", 64)", 0);
      look(FULL_TEXT, "copy(" + at + ", 64)", 64);
      look(FULL_TEXT, "style(" + at + ", 15, 0)", 0);
      look(FULL_TEXT, "toggle(" + at + ", 4)", 0);
    }
  }

  private static void run() {
    sentence("Terms (promises 13 to 16)", "A RUN is a stretch of one or more characters");
    look(EMPTY, "runs()", 0);
    refused(EMPTY, NONE, "runBegin(0)", "runStyle(0)", "runOf(0)");
    look("a0 /0", "runs()", 1);
    look("a0 /1", "runBegin(0)", 0);

    sentence("Terms (promises 13 to 16)", "of the same style");
    look("a0 a1 /0", "runs()", 2);
    look("a0 a8 /0", "runs()", 2);
    look("a7 a63 /0", "runs()", 2);
    look("a4 a5 a4 /0", "runs()", 3);

    sentence("Terms (promises 13 to 16)", "that is not part of a longer such stretch");
    look("a5 b5 z5 /1", "runs()", 1);
    refused("a5 b5 z5 /1", NONE, "runBegin(1)", "runStyle(1)");
    look("a5 b5 z5 /1", "runOf(2)", 0);
    look("a5 b5 z6 z6 /1", "runBegin(1)", 2);

    sentence("Terms (promises 14 to 16)", "the runs are numbered from 0 on, from the left");
    look("a9 b9 c2 d9 /0", "runBegin(0)", 0);
    look("a9 b9 c2 d9 /0", "runBegin(1)", 2);
    look("a9 b9 c2 d9 /0", "runBegin(2)", 3);
    look("a9 b9 c2 d9 /0", "runStyle(0)", 9);
    look("a9 b9 c2 d9 /0", "runStyle(1)", 2);
    look("a9 b9 c2 d9 /0", "runOf(0)", 0);
    look("a9 b9 c2 d9 /0", "runOf(3)", 2);
  }

  private static void flagItself() {
    sentence("Terms (promises 1, 18, 19)", "There is a FLAG, a number 0 <= g <= n");
    row(SOME, "setFlag(0)", 2, "a1 b3 c5 d63 /0");
    row(SOME, "setFlag(4)", 2, "a1 b3 c5 d63 /4");
    refused(SOME, BAD_ARG, "setFlag(-1)", "setFlag(5)", "setFlag(least)", "setFlag(greatest)");
    row(FULL_TEXT, "setFlag(64)", 30, fullPart(0, 64) + "/64");
    refused(FULL_TEXT, BAD_ARG, "setFlag(65)");

    sentence("Terms (promises 2, 4)", "that stands between characters (0 before the first one)");
    row("a1 /0", "type(0, 1)", 2, "b1 a1 /0");
    row("a1 b1 /0", "remove(0, 1)", 1, "b1 /0");
    row("a1 b1 /1", "remove(0, 1)", 1, "b1 /0");
    row("a1 b1 /1", "remove(1, 2)", 1, "a1 /1");
  }

  private static String someWithFlag(int g) {
    return "a1 b3 c5 d63 /" + g;
  }

  /** The flag after each call that puts m characters in at place p. */
  private static void flagAfterPuttingIn(int g, int p, boolean grows) {
    flagAfter(someWithFlag(g), "type(" + p + ", 0)", grows ? g + 1 : g);
    flagAfter(someWithFlag(g), "put(" + p + ", 0, 0, 0)", g);
    flagAfter(someWithFlag(g), "put(" + p + ", 0, 3, 0)", grows ? g + 3 : g);
    flagAfter(someWithFlag(g), "put(" + p + ", 0, 60, 0)", grows ? g + 60 : g);
    flagAfter(someWithFlag(g), "copy(1, 1, " + p + ")", g);
    flagAfter(someWithFlag(g), "copy(1, 3, " + p + ")", grows ? g + 2 : g);
    flagAfter(someWithFlag(g), "copy(0, 4, " + p + ")", grows ? g + 4 : g);
  }

  private static void flagWhenPutIn() {
    sentence("Terms (promises 2, 3, 6)", "the flag grows by m if p < g");
    for (int g = 1; g <= 4; g++) {
      for (int p = 0; p < g; p++) flagAfterPuttingIn(g, p, true);
    }
    row(SOME, "put(1, 25, 60, 0)", 64, "a1 " + times(60, "z0") + "b3 c5 d63 /62");
    row("a1 b3 /2", "put(0, 25, 62, 0)", 64, times(62, "z0") + "a1 b3 /64");

    sentence("Terms (promises 2, 3, 6)", "and else stays");
    for (int g = 0; g <= 4; g++) {
      for (int p = g; p <= 4; p++) flagAfterPuttingIn(g, p, false);
    }
    row(EMPTY, "put(0, 25, 64, 0)", 64, times(64, "z0") + "/0");
    row("a1 /1", "put(1, 25, 63, 0)", 64, "a1 " + times(63, "z0") + "/1");

    sentence("Terms (promises 2, 3, 6)", "(the first of them to stand at place p)");
    row(SOME, "type(1, 25)", 5, "a1 z1 b3 c5 d63 /3");
    row(SOME, "put(1, 25, 2, 9)", 6, "a1 z9 z9 b3 c5 d63 /4");
    row(SOME, "copy(2, 4, 1)", 6, "a1 c5 d63 b3 c5 d63 /4");
    row(SOME, "put(0, 25, 1, 9)", 5, "z9 a1 b3 c5 d63 /3");
    row(SOME, "put(4, 25, 1, 9)", 5, "a1 b3 c5 d63 z9 /2");
  }

  private static void flagAfterRemoval(int i, int j, int g, int want) {
    flagAfter(someWithFlag(g), "remove(" + i + ", " + j + ")", want);
  }

  private static void flagWhenRemoved() {
    sentence("Terms (promise 4)", "the flag becomes g - (j - i) if g >= j");
    for (int j = 0; j <= 4; j++) {
      for (int i = 0; i <= j; i++) {
        for (int g = j; g <= 4; g++) flagAfterRemoval(i, j, g, g - (j - i));
      }
    }
    row(fullPart(0, 64) + "/64", "remove(0, 64)", 0, EMPTY);
    row(fullPart(0, 64) + "/64", "remove(0, 63)", 1, fullPart(63, 64) + "/1");

    sentence("Terms (promise 4)", "i if i < g < j");
    for (int j = 0; j <= 4; j++) {
      for (int i = 0; i <= j; i++) {
        for (int g = i + 1; g < j; g++) flagAfterRemoval(i, j, g, i);
      }
    }
    row(fullPart(0, 64) + "/63", "remove(1, 64)", 1, fullPart(0, 1) + "/1");
    row(fullPart(0, 64) + "/2", "remove(1, 64)", 1, fullPart(0, 1) + "/1");

    sentence("Terms (promise 4)", "and stays g if g <= i");
    for (int j = 0; j <= 4; j++) {
      for (int i = 0; i <= j; i++) {
        for (int g = 0; g <= i; g++) flagAfterRemoval(i, j, g, g);
      }
    }
    row(fullPart(0, 64) + "/63", "remove(63, 64)", 63, fullPart(0, 63) + "/63");
    row(fullPart(0, 64) + "/0", "remove(0, 64)", 0, EMPTY);
  }

  private static void stretchTestedFirst() {
    sentence("Terms (promises 4 to 8)", "In all calls with a stretch i, j, it is tested first");
    refused(FULL_TEXT, BAD_ARG, "copy(0, 65, 0)", "copy(-1, 64, 0)", "copy(-1, 0, 0)", "copy(1, least, 0)",
        "copy(least, greatest, 0)", "copy(greatest, least, 0)", "copy(65, 66, 0)");
    // A range of p reckoned from these would hold the p.
    refused(SOME, BAD_ARG, "move(3, 2, 5)", "move(4, 0, 8)", "move(greatest, least, 4)", "move(least, greatest, 4)",
        "move(1, least, 4)", "move(-1, -1, 0)", "move(5, 5, 4)");
    refused(SOME, BAD_ARG, "move(-1, 2, 9)", "copy(0, 5, 5)", "style(0, 5, 16, 64)", "style(2, 1, -1, -1)",
        "toggle(2, 1, 3)", "toggle(-1, 4, 0)");
    refused(EMPTY, BAD_ARG, "move(0, 1, 0)", "copy(0, 1, 1)", "style(1, 1, 16, 0)", "toggle(0, 1, 8)");
  }

  private static void constants() {
    sentence("Terms (promises 2 to 9, 17, 18)", "BAD_ARG = -1: An argument is out of its range");
    due("BAD_ARG", StyledText.BAD_ARG, -1);
    refused(EMPTY, -1, "type(1, 0)", "put(0, 0, 65, 0)", "having(8)", "setFlag(1)", "replace(26, 0)");

    sentence("Terms (promises 2, 3, 6)", "FULL = -2: The text would have more than 64 characters");
    due("FULL", StyledText.FULL, -2);
    refused("a1 /1", -2, "put(0, 0, 64, 0)");
    row("a1 /1", "put(1, 0, 63, 0)", 64, "a1 " + times(63, "a0") + "/1");

    sentence("Terms (promises 11, 12, 14 to 16)", "NONE = -4: There is no such thing");
    due("NONE", StyledText.NONE, -4);
    refused(EMPTY, -4, "letter(0)", "styleAt(0)", "runBegin(0)", "runStyle(0)", "runOf(0)");
  }

  // ---- Every call with every meeting of arguments inside, at the ends of and outside their ranges ----

  private static boolean in(int value, int most) {
    return value >= 0 && value <= most;
  }

  private static boolean isStretchOf(int n, int i, int j) {
    return i >= 0 && i <= j && j <= n;
  }

  /** The code that is due, or 0 if the call is not refused; every character of the text is a run. */
  private static int codeDue(int n, String name, int[] a) {
    switch (name) {
      case "type": return !in(a[1], 25) || !in(a[0], n) ? BAD_ARG : n == 64 ? FULL : 0;
      case "put":
        if (!in(a[1], 25) || !in(a[0], n) || !in(a[2], 64) || !in(a[3], 63)) return BAD_ARG;
        return n + a[2] > 64 ? FULL : 0;
      case "remove": return isStretchOf(n, a[0], a[1]) ? 0 : BAD_ARG;
      case "move": return isStretchOf(n, a[0], a[1]) && in(a[2], n - (a[1] - a[0])) ? 0 : BAD_ARG;
      case "copy":
        if (!isStretchOf(n, a[0], a[1]) || !in(a[2], n)) return BAD_ARG;
        return n + (a[1] - a[0]) > 64 ? FULL : 0;
      case "style": return isStretchOf(n, a[0], a[1]) && in(a[2], 15) && in(a[3], 63) ? 0 : BAD_ARG;
      case "toggle": return isStretchOf(n, a[0], a[1]) && (a[2] == 1 || a[2] == 2 || a[2] == 4) ? 0 : BAD_ARG;
      case "replace": return in(a[0], 25) && in(a[1], 25) ? 0 : BAD_ARG;
      case "having": return in(a[0], 7) ? 0 : BAD_ARG;
      case "setFlag": return in(a[0], n) ? 0 : BAD_ARG;
      default: return in(a[0], n - 1) ? 0 : NONE;
    }
  }

  private static void meeting(String text, int n, String name, int... a) {
    Subject x = made(text);
    int code = codeDue(n, name, a);
    int got = x.call(name, a);
    String call = name + Arrays.toString(a);
    due("on " + text + " the answer of " + call, code == 0 ? Math.min(got, 0) : got, code);
    if (code != 0) due("on " + text + " the text after " + call, x.shown(), text);
  }

  private static int[] ends(int most, int... more) {
    int[] ends = Arrays.copyOf(new int[] {LEAST, -1, 0, most, most + 1, GREATEST}, 6 + more.length);
    System.arraycopy(more, 0, ends, 6, more.length);
    return Arrays.stream(ends).distinct().toArray();
  }

  private static void meetingsOfTwo(String text, int n) {
    for (int c : ends(25)) {
      for (int p : ends(n)) meeting(text, n, "type", p, c);
      for (int d : ends(25)) meeting(text, n, "replace", c, d);
      for (int p : ends(n)) {
        for (int k : ends(64, 64 - n, 65 - n)) {
          for (int s : ends(63)) meeting(text, n, "put", p, c, k, s);
        }
      }
    }
  }

  private static void meetingsOfStretch(String text, int n) {
    for (int i : ends(n, 1, n - 1)) {
      for (int j : ends(n, 1, n - 1)) {
        meeting(text, n, "remove", i, j);
        for (int p : ends(n, 1, n - 1)) {
          meeting(text, n, "move", i, j, p);
          meeting(text, n, "copy", i, j, p);
        }
        for (int mask : ends(15)) {
          for (int s : ends(63)) meeting(text, n, "style", i, j, mask, s);
        }
        for (int bit : ends(8, 1, 2, 3, 4, 5, 6, 7)) meeting(text, n, "toggle", i, j, bit);
      }
    }
  }

  private static void meetings(String text, int n) {
    meetingsOfTwo(text, n);
    meetingsOfStretch(text, n);
    for (int bits : ends(7)) meeting(text, n, "having", bits);
    for (int g : ends(n)) meeting(text, n, "setFlag", g);
    for (String name : new String[] {"letter", "styleAt", "runBegin", "runStyle", "runOf"}) {
      for (int p : ends(n - 1, 64, NONE)) meeting(text, n, name, p);
    }
  }

  private static void refusals() {
    sentence("Terms (promises 1 to 20)",
        "No call ever throws. A refused call answers the code named and changes nothing.");
    meetings(EMPTY, 0);
    meetings("e9 /1", 1);
    meetings(SOME, 4);
    meetings(fullPart(0, 33) + "/33", 33);
    meetings(fullPart(0, 63) + "/0", 63);
    meetings(FULL_TEXT, 64);
  }

  // ---- The promises ----

  private static void newObject() {
    sentence("Promise 1", "The text is empty");
    due("the text of a new object", new Subject().shown(), EMPTY);
    String[] zero = {"length()", "runs()", "digest()", "having(0)", "replace(0, 0)"};
    for (String call : zero) due(call + " of a new object", new Subject().callAs(call), 0);
    String[] none = {"letter(0)", "styleAt(0)", "runBegin(0)", "runStyle(0)", "runOf(0)"};
    for (String call : none) due(call + " of a new object", new Subject().callAs(call), NONE);
    Subject first = made(SOME);
    due("a new object beside another", new Subject().shown(), EMPTY);
    due("the other", first.shown(), SOME);

    sentence("Promise 1", "the flag is 0");
    due("flag() of a new object", new Subject().callAs("flag()"), 0);
    due("setFlag(0) of a new object", new Subject().callAs("setFlag(0)"), 0);
    due("setFlag(1) of a new object", new Subject().callAs("setFlag(1)"), BAD_ARG);
  }

  private static void styleOfTyped() {
    sentence("Promise 2", "Its style is that of the character before it (at place p - 1)");
    row(SOME, "type(1, 25)", 5, "a1 z1 b3 c5 d63 /3");
    row(SOME, "type(3, 25)", 5, "a1 b3 c5 z5 d63 /2");
    row(SOME, "type(4, 25)", 5, "a1 b3 c5 d63 z63 /2");
    row(fullPart(0, 63) + "/0", "type(62, 0)", 64, fullPart(0, 62) + "a61 " + fullPart(62, 63) + "/0");

    sentence("Promise 2", "if p is 0, that of the character that stood at place 0 before");
    row(SOME, "type(0, 25)", 5, "z1 a1 b3 c5 d63 /3");
    row("a63 b0 /0", "type(0, 25)", 3, "z63 a63 b0 /0");
    row("a0 b63 /0", "type(0, 25)", 3, "z0 a0 b63 /0");
    row(fullPart(1, 64) + "/0", "type(0, 0)", 64, "a1 " + fullPart(1, 64) + "/0");

    sentence("Promise 2", "or 0 if the text was empty");
    row(EMPTY, "type(0, 25)", 1, "z0 /0");
    Subject emptied = made("a63 b62 /1");
    emptied.callAs("remove(0, 2)");
    due("type(0, 1) into the emptied text", emptied.callAs("type(0, 1)"), 1);
    due("the text after it", emptied.shown(), "b0 /0");
  }

  private static void typeTests() {
    sentence("Promise 2", "c not 0 to 25 answers BAD_ARG");
    row(SOME, "type(4, 0)", 5, "a1 b3 c5 d63 a63 /2");
    row(SOME, "type(4, 25)", 5, "a1 b3 c5 d63 z63 /2");
    refused(SOME, BAD_ARG, "type(4, -1)", "type(4, 26)", "type(4, least)", "type(4, greatest)");
    refused(EMPTY, BAD_ARG, "type(0, -1)", "type(0, 26)");

    sentence("Promise 2", "p not 0 to n answers BAD_ARG");
    row(SOME, "type(0, 0)", 5, "a1 a1 b3 c5 d63 /3");
    refused(SOME, BAD_ARG, "type(-1, 0)", "type(5, 0)", "type(least, 0)", "type(greatest, 0)", "type(64, 0)");
    refused(EMPTY, BAD_ARG, "type(-1, 0)", "type(1, 0)");

    sentence("Promise 2", "FULL");
    row(fullPart(0, 63) + "/63", "type(0, 0)", 64, "a0 " + fullPart(0, 63) + "/64");
    refused(FULL_TEXT, FULL, "type(0, 0)", "type(30, 25)", "type(63, 0)", "type(64, 25)");

    sentence("Promise 2", "Tested in this order: BAD_ARG; FULL");
    refused(FULL_TEXT, BAD_ARG, "type(0, 26)", "type(64, -1)", "type(65, 0)", "type(-1, 0)", "type(greatest, least)");

    sentence("Promise 2", "Otherwise the new n");
    Subject x = new Subject();
    for (int n = 1; n <= 64; n++) due("typing character " + n, x.call("type", n / 2, n % 26), n);
    due("typing character 65", x.callAs("type(0, 0)"), FULL);
  }

  private static void putCounts() {
    sentence("Promise 3", "Puts k characters with the letter c and the style s in at place p");
    row(SOME, "put(1, 25, 1, 0)", 5, "a1 z0 b3 c5 d63 /3");
    row(SOME, "put(0, 0, 2, 63)", 6, "a63 a63 a1 b3 c5 d63 /4");
    row(SOME, "put(4, 4, 60, 8)", 64, "a1 b3 c5 d63 " + times(60, "e8") + "/2");
    row(EMPTY, "put(0, 4, 64, 8)", 64, times(64, "e8") + "/0");

    sentence("Promise 3", "Puts k characters in: nothing changes if k is 0");
    look(SOME, "put(0, 25, 0, 63)", 4);
    look(SOME, "put(4, 25, 0, 63)", 4);
    look(EMPTY, "put(0, 25, 0, 63)", 0);
    look(FULL_TEXT, "put(0, 25, 0, 63)", 64);
    look(FULL_TEXT, "put(64, 25, 0, 63)", 64);
  }

  private static void putTests() {
    sentence("Promise 3", "c not 0 to 25 answers BAD_ARG");
    row(SOME, "put(4, 0, 1, 9)", 5, "a1 b3 c5 d63 a9 /2");
    row(SOME, "put(4, 25, 1, 9)", 5, "a1 b3 c5 d63 z9 /2");
    refused(SOME, BAD_ARG, "put(4, -1, 1, 9)", "put(4, 26, 1, 9)", "put(4, least, 1, 9)", "put(4, greatest, 1, 9)",
        "put(4, 26, 0, 9)", "put(4, -1, 0, 9)");

    sentence("Promise 3", "p not 0 to n answers BAD_ARG");
    row(SOME, "put(0, 4, 1, 9)", 5, "e9 a1 b3 c5 d63 /3");
    refused(SOME, BAD_ARG, "put(-1, 4, 1, 9)", "put(5, 4, 1, 9)", "put(least, 4, 1, 9)", "put(greatest, 4, 1, 9)",
        "put(-1, 4, 0, 9)", "put(5, 4, 0, 9)");
    refused(EMPTY, BAD_ARG, "put(1, 4, 1, 9)", "put(-1, 4, 1, 9)", "put(1, 4, 0, 9)");

    sentence("Promise 3", "k not 0 to 64 answers BAD_ARG");
    refused(SOME, BAD_ARG, "put(0, 4, -1, 9)", "put(0, 4, 65, 9)", "put(0, 4, least, 9)", "put(0, 4, greatest, 9)");
    refused(EMPTY, BAD_ARG, "put(0, 4, -1, 9)", "put(0, 4, 65, 9)", "put(0, 4, greatest, 9)");
    row(EMPTY, "put(0, 4, 64, 9)", 64, times(64, "e9") + "/0");

    sentence("Promise 3", "s not 0 to 63 answers BAD_ARG");
    row(SOME, "put(4, 4, 1, 0)", 5, "a1 b3 c5 d63 e0 /2");
    row(SOME, "put(4, 4, 1, 63)", 5, "a1 b3 c5 d63 e63 /2");
    refused(SOME, BAD_ARG, "put(4, 4, 1, -1)", "put(4, 4, 1, 64)", "put(4, 4, 1, least)", "put(4, 4, 1, greatest)",
        "put(4, 4, 0, -1)", "put(4, 4, 0, 64)");
  }

  private static void putFull() {
    sentence("Promise 3", "FULL");
    row(SOME, "put(4, 4, 60, 9)", 64, "a1 b3 c5 d63 " + times(60, "e9") + "/2");
    refused(SOME, FULL, "put(4, 4, 61, 9)", "put(0, 4, 64, 9)");
    refused("a1 /0", FULL, "put(0, 4, 64, 9)");
    row(fullPart(0, 63) + "/0", "put(63, 4, 1, 9)", 64, fullPart(0, 63) + "e9 /0");
    refused(fullPart(0, 63) + "/0", FULL, "put(63, 4, 2, 9)");
    refused(FULL_TEXT, FULL, "put(0, 4, 1, 9)", "put(64, 4, 64, 9)");

    sentence("Promise 3", "Tested in this order: BAD_ARG; FULL");
    refused(FULL_TEXT, BAD_ARG, "put(0, 26, 1, 9)", "put(0, -1, 1, 9)", "put(65, 4, 1, 9)", "put(-1, 4, 1, 9)",
        "put(0, 4, 65, 9)", "put(0, 4, -1, 9)", "put(0, 4, greatest, 9)", "put(0, 4, 1, 64)", "put(0, 4, 1, -1)");

    sentence("Promise 3", "Otherwise the new n");
    for (int k = 0; k <= 64; k++) {
      due("put of " + k + " into the empty text", new Subject().call("put", 0, 4, k, 9), k);
      due("put of " + k + " into a text of 4", made(SOME).call("put", 2, 4, k, 9), k <= 60 ? 4 + k : FULL);
    }
  }

  private static void remove() {
    sentence("Promise 4", "Removes the stretch");
    row(SOME, "remove(0, 1)", 3, "b3 c5 d63 /1");
    row(SOME, "remove(3, 4)", 3, "a1 b3 c5 /2");
    row(SOME, "remove(0, 4)", 0, EMPTY);
    row(FULL_TEXT, "remove(0, 64)", 0, EMPTY);
    row(FULL_TEXT, "remove(0, 63)", 1, fullPart(63, 64) + "/0");
    row(FULL_TEXT, "remove(1, 64)", 1, fullPart(0, 1) + "/1");
    row(FULL_TEXT, "remove(63, 64)", 63, fullPart(0, 63) + "/30");

    sentence("Promise 4", "Removes the stretch: an empty one");
    look(SOME, "remove(0, 0)", 4);
    look(SOME, "remove(2, 2)", 4);
    look(SOME, "remove(4, 4)", 4);
    look(EMPTY, "remove(0, 0)", 0);
    look(FULL_TEXT, "remove(64, 64)", 64);

    sentence("Promise 4 and Terms", "if there is no such stretch the answer is BAD_ARG");
    refused(SOME, BAD_ARG, "remove(-1, 1)", "remove(2, 1)", "remove(3, 5)", "remove(5, 5)", "remove(-1, -1)",
        "remove(least, 4)", "remove(0, greatest)", "remove(least, greatest)", "remove(greatest, least)");
    refused(EMPTY, BAD_ARG, "remove(0, 1)", "remove(1, 1)", "remove(-1, 0)");
    refused(FULL_TEXT, BAD_ARG, "remove(0, 65)", "remove(65, 65)", "remove(64, 63)");

    sentence("Promise 4", "Answers the new n");
    for (int j = 0; j <= 64; j++) due("remove(0, " + j + ")", made(FULL_TEXT).call("remove", 0, j), 64 - j);
  }

  private static void move() {
    sentence("Promise 5", "so that they stand from place p on of the text without them");
    row(SOME, "move(0, 1, 3)", 0, "b3 c5 d63 a1 /1");
    row(SOME, "move(3, 4, 0)", 0, "d63 a1 b3 c5 /3");
    row("a1 b3 c5 d63 e9 /0", "move(1, 3, 2)", 0, "a1 d63 b3 c5 e9 /0");
    row("a1 b3 c5 d63 e9 /0", "move(1, 3, 3)", 0, "a1 d63 e9 b3 c5 /0");
    row("a1 b3 c5 d63 e9 /0", "move(1, 3, 1)", 0, "a1 b3 c5 d63 e9 /0");
    row(FULL_TEXT, "move(0, 63, 1)", 0, fullPart(63, 64) + fullPart(0, 63) + "/0");
    row(FULL_TEXT, "move(63, 64, 0)", 0, fullPart(63, 64) + fullPart(0, 63) + "/31");
    row(FULL_TEXT, "move(0, 1, 63)", 0, fullPart(1, 64) + fullPart(0, 1) + "/29");

    sentence("Promise 5", "p not 0 to n - (j - i) answers BAD_ARG");
    row(SOME, "move(1, 3, 0)", 0, "b3 c5 a1 d63 /3");
    row(SOME, "move(1, 3, 2)", 0, "a1 d63 b3 c5 /1");
    refused(SOME, BAD_ARG, "move(1, 3, -1)", "move(1, 3, 3)", "move(1, 3, 4)", "move(1, 3, least)",
        "move(1, 3, greatest)");

    sentence("Promise 5", "p not 0 to n - (j - i) answers BAD_ARG: for the whole text 0 alone");
    row("a1 b3 c5 d63 /0", "move(0, 4, 0)", 0, "a1 b3 c5 d63 /0");
    row(fullPart(0, 64) + "/0", "move(0, 64, 0)", 0, fullPart(0, 64) + "/0");
    refused(SOME, BAD_ARG, "move(0, 4, 1)", "move(0, 4, -1)", "move(0, 4, 4)");
    refused(FULL_TEXT, BAD_ARG, "move(0, 64, 1)", "move(0, 64, 64)");

    sentence("Promise 5", "p not 0 to n - (j - i) answers BAD_ARG: for an empty stretch 0 to n");
    look(SOME, "move(1, 1, 0)", 0);
    look(SOME, "move(1, 1, 4)", 0);
    refused(SOME, BAD_ARG, "move(1, 1, -1)", "move(1, 1, 5)");
    look(EMPTY, "move(0, 0, 0)", 0);
    refused(EMPTY, BAD_ARG, "move(0, 0, 1)", "move(0, 0, -1)");
    look(FULL_TEXT, "move(64, 64, 64)", 0);
    refused(FULL_TEXT, BAD_ARG, "move(0, 0, 65)");
  }

  private static void moveOrderAndFlag() {
    sentence("Promise 5", "Tested in this order: the stretch; p");
    refused(SOME, BAD_ARG, "move(-1, 2, 0)", "move(2, 1, 0)", "move(2, 1, 5)", "move(3, 5, 0)", "move(3, 5, 2)",
        "move(-1, 5, -2)", "move(greatest, least, greatest)");

    sentence("Promise 5", "The flag moves as for the removal and then as for the putting in");
    for (int i = 0; i <= 4; i++) {
      for (int j = i; j <= 4; j++) {
        for (int p = 0; p <= 4 - (j - i); p++) {
          for (int g = 0; g <= 4; g++) flagAfterMove(i, j, p, g);
        }
      }
    }
    row("a1 b3 c5 d63 /4", "move(0, 4, 0)", 0, "a1 b3 c5 d63 /0");
    row("a1 b3 c5 d63 /3", "move(1, 3, 0)", 0, "b3 c5 a1 d63 /3");
    row("a1 b3 c5 d63 /3", "move(1, 3, 1)", 0, "a1 b3 c5 d63 /1");
    row("a1 b3 c5 d63 /4", "move(1, 3, 1)", 0, "a1 b3 c5 d63 /4");

    sentence("Promise 5", "Otherwise 0");
    row(SOME, "move(0, 2, 1)", 0, "c5 a1 b3 d63 /0");
    look(SOME, "move(3, 4, 3)", 0);
    look(EMPTY, "move(0, 0, 0)", 0);
  }

  private static void flagAfterMove(int i, int j, int p, int g) {
    int m = j - i;
    int removed = g >= j ? g - m : g > i ? i : g;
    flagAfter(someWithFlag(g), "move(" + i + ", " + j + ", " + p + ")", p < removed ? removed + m : removed);
  }

  private static void copy() {
    sentence("Promise 6", "Puts a copy of the stretch's characters in at place p");
    row(SOME, "copy(0, 4, 0)", 8, "a1 b3 c5 d63 a1 b3 c5 d63 /6");
    row(SOME, "copy(0, 4, 4)", 8, "a1 b3 c5 d63 a1 b3 c5 d63 /2");
    row(SOME, "copy(1, 4, 1)", 7, "a1 b3 c5 d63 b3 c5 d63 /5");
    row(SOME, "copy(0, 3, 1)", 7, "a1 a1 b3 c5 b3 c5 d63 /5");
    row(SOME, "copy(0, 3, 2)", 7, "a1 b3 a1 b3 c5 c5 d63 /2");
    row(SOME, "copy(0, 1, 4)", 5, "a1 b3 c5 d63 a1 /2");

    sentence("Promise 6", "p not 0 to n answers BAD_ARG");
    refused(SOME, BAD_ARG, "copy(1, 3, -1)", "copy(1, 3, 5)", "copy(1, 3, least)", "copy(1, 3, greatest)",
        "copy(1, 1, -1)", "copy(1, 1, 5)");
    look(EMPTY, "copy(0, 0, 0)", 0);
    refused(EMPTY, BAD_ARG, "copy(0, 0, 1)", "copy(0, 0, -1)");

    sentence("Promise 6", "FULL");
    String half = fullPart(0, 32);
    row(half + "/32", "copy(0, 32, 0)", 64, half + half + "/64");
    row(half + "/0", "copy(0, 32, 32)", 64, half + half + "/0");
    row(half + "/16", "copy(0, 32, 16)", 64, fullPart(0, 16) + half + fullPart(16, 32) + "/16");
    refused(fullPart(0, 33) + "/9", FULL, "copy(0, 32, 0)", "copy(0, 33, 33)");
    row(fullPart(0, 33) + "/9", "copy(2, 33, 0)", 64, fullPart(2, 33) + fullPart(0, 33) + "/40");
    refused(FULL_TEXT, FULL, "copy(0, 1, 0)", "copy(63, 64, 64)", "copy(0, 64, 32)");

    sentence("Promise 6", "FULL: an empty stretch has room in the full text");
    look(FULL_TEXT, "copy(0, 0, 0)", 64);
    look(FULL_TEXT, "copy(64, 64, 64)", 64);

    sentence("Promise 6", "Tested in this order: the stretch; p; FULL");
    refused(FULL_TEXT, BAD_ARG, "copy(0, 65, 0)", "copy(-1, 3, 0)", "copy(2, 1, 0)", "copy(0, 1, 65)",
        "copy(0, 1, -1)", "copy(0, 64, greatest)", "copy(0, 64, least)", "copy(1, least, 0)");
    refused(SOME, BAD_ARG, "copy(-1, 2, 5)", "copy(2, 1, -1)", "copy(0, 5, 5)");

    sentence("Promise 6", "Otherwise the new n");
    for (int m = 0; m <= 33; m++) {
      due("copy(0, " + m + ", 0)", made(fullPart(0, 33) + "/9").call("copy", 0, m, 0), m <= 31 ? 33 + m : FULL);
    }
  }

  private static void style() {
    sentence("Promise 7", "In the style of every character of the stretch");
    row("a0 b0 c0 d0 /2", "style(0, 4, 15, 63)", 4, "a63 b63 c63 d63 /2");
    row("a0 b0 c0 d0 /2", "style(1, 3, 15, 63)", 2, "a0 b63 c63 d0 /2");
    row("a0 b0 c0 d0 /2", "style(0, 1, 15, 63)", 1, "a63 b0 c0 d0 /2");
    row("a0 b0 c0 d0 /2", "style(3, 4, 15, 63)", 1, "a0 b0 c0 d63 /2");
    row(times(64, "a0") + "/9", "style(0, 64, 15, 63)", 64, times(64, "a63") + "/9");

    sentence("Promise 7", "the parts in mask (the sum of 1, 2, 4 for bold, slanted, underlined; 8 for the size) become"
        + " those of s");
    for (int mask = 0; mask <= 15; mask++) {
      int parts = mask < 8 ? mask : mask + 48;
      row("a0 /0", "style(0, 1, " + mask + ", 63)", mask == 0 ? 0 : 1, "a" + parts + " /0");
      row("a63 /0", "style(0, 1, " + mask + ", 0)", mask == 0 ? 0 : 1, "a" + (63 - parts) + " /0");
    }
    row("a42 /0", "style(0, 1, 8, 21)", 1, "a18 /0");
    row("a42 /0", "style(0, 1, 7, 21)", 1, "a45 /0");

    sentence("Promise 7", "mask not 0 to 15 answers BAD_ARG");
    look(SOME, "style(0, 4, 0, 0)", 0);
    row(SOME, "style(0, 4, 15, 0)", 4, "a0 b0 c0 d0 /2");
    refused(SOME, BAD_ARG, "style(0, 4, -1, 0)", "style(0, 4, 16, 0)", "style(0, 4, least, 0)",
        "style(0, 4, greatest, 0)", "style(2, 2, -1, 0)", "style(2, 2, 16, 0)");
    refused(EMPTY, BAD_ARG, "style(0, 0, -1, 0)", "style(0, 0, 16, 0)");

    sentence("Promise 7", "s not 0 to 63 answers BAD_ARG");
    row(SOME, "style(0, 4, 15, 63)", 3, "a63 b63 c63 d63 /2");
    refused(SOME, BAD_ARG, "style(0, 4, 15, -1)", "style(0, 4, 15, 64)", "style(0, 4, 15, least)",
        "style(0, 4, 15, greatest)", "style(0, 4, 0, 64)", "style(0, 4, 1, 65)", "style(2, 2, 15, -1)",
        "style(2, 2, 15, 64)");
    refused(EMPTY, BAD_ARG, "style(0, 0, 15, 64)", "style(0, 0, 15, -1)");
  }

  private static void styleOrderAndCount() {
    sentence("Promise 7", "Tested in this order: the stretch; mask or s");
    refused(SOME, BAD_ARG, "style(-1, 4, 1, 0)", "style(0, 5, 1, 0)", "style(2, 1, 1, 0)", "style(5, 5, 1, 0)",
        "style(0, 5, 16, 64)", "style(least, greatest, least, greatest)");

    sentence("Promise 7", "Otherwise the number of characters whose style this changed");
    row(SOME, "style(0, 4, 1, 0)", 4, "a0 b2 c4 d62 /2");
    look(SOME, "style(0, 4, 1, 1)", 0);
    row(SOME, "style(0, 4, 2, 2)", 2, "a3 b3 c7 d63 /2");
    row(SOME, "style(0, 4, 8, 56)", 3, "a57 b59 c61 d63 /2");

    sentence("Promise 7", "Otherwise the number of characters whose style this changed: 0 for an empty stretch");
    look(SOME, "style(0, 0, 15, 0)", 0);
    look(SOME, "style(4, 4, 15, 0)", 0);
    look(EMPTY, "style(0, 0, 15, 63)", 0);
  }

  private static void toggle() {
    sentence("Promise 8", "If every character of the stretch has the part bit (1, 2 or 4), all of them lose it");
    row(SOME, "toggle(0, 4, 1)", 0, "a0 b2 c4 d62 /2");
    row("a2 b3 c6 d63 /0", "toggle(0, 4, 2)", 0, "a0 b1 c4 d61 /0");
    row("a4 b12 c6 d63 /0", "toggle(0, 4, 4)", 0, "a0 b8 c2 d59 /0");
    row(SOME, "toggle(3, 4, 4)", 0, "a1 b3 c5 d59 /2");
    row(times(64, "a63") + "/9", "toggle(0, 64, 4)", 0, times(64, "a59") + "/9");

    sentence("Promise 8", "else all of them get it");
    row("a0 b1 c1 /0", "toggle(0, 3, 1)", 1, "a1 b1 c1 /0");
    row("a1 b0 c1 /0", "toggle(0, 3, 1)", 1, "a1 b1 c1 /0");
    row("a1 b1 c0 /0", "toggle(0, 3, 1)", 1, "a1 b1 c1 /0");
    row("a0 b8 c56 /0", "toggle(0, 3, 4)", 1, "a4 b12 c60 /0");
    row("a0 b2 c0 /0", "toggle(1, 2, 2)", 0, "a0 b0 c0 /0");
    row("a2 b0 c2 /0", "toggle(1, 2, 2)", 1, "a2 b2 c2 /0");
    row(times(63, "a63") + "a62 /9", "toggle(0, 64, 1)", 1, times(64, "a63") + "/9");

    sentence("Promise 8", "bit not 1, 2 or 4 answers BAD_ARG");
    for (String bit : new String[] {"least", "-4", "-1", "0", "3", "5", "6", "7", "8", "16", "64", "greatest"}) {
      refused(SOME, BAD_ARG, "toggle(0, 4, " + bit + ")", "toggle(2, 2, " + bit + ")");
      refused(EMPTY, BAD_ARG, "toggle(0, 0, " + bit + ")");
      refused(FULL_TEXT, BAD_ARG, "toggle(0, 64, " + bit + ")");
    }

    sentence("Promise 8", "Tested in this order: the stretch; bit");
    refused(SOME, BAD_ARG, "toggle(-1, 4, 1)", "toggle(0, 5, 1)", "toggle(2, 1, 1)", "toggle(5, 5, 1)",
        "toggle(0, 5, 3)", "toggle(2, 1, 0)", "toggle(least, greatest, greatest)");

    sentence("Promise 8", "Otherwise 1 if they have it afterwards (also for an empty stretch: then 0)");
    for (int bit = 1; bit <= 4; bit *= 2) {
      look(EMPTY, "toggle(0, 0, " + bit + ")", 0);
      look("a0 b0 /1", "toggle(1, 1, " + bit + ")", 0);
      look("a63 b63 /1", "toggle(1, 1, " + bit + ")", 0);
      look("a63 b63 /1", "toggle(2, 2, " + bit + ")", 0);
      look(FULL_TEXT, "toggle(64, 64, " + bit + ")", 0);
    }
  }

  private static void replace() {
    sentence("Promise 9", "Every character with the letter c becomes one with the letter d; the styles stay");
    row("a1 b3 a5 a63 /2", "replace(0, 25)", 3, "z1 b3 z5 z63 /2");
    row("a1 b3 a5 a63 /2", "replace(0, 1)", 3, "b1 b3 b5 b63 /2");
    row(times(64, "z9") + "/64", "replace(25, 0)", 64, times(64, "a9") + "/64");

    sentence("Promise 9", "BAD_ARG if c or d is not 0 to 25");
    refused(SOME, BAD_ARG, "replace(-1, 0)", "replace(26, 0)", "replace(least, 0)", "replace(greatest, 0)");
    refused(SOME, BAD_ARG, "replace(0, -1)", "replace(0, 26)", "replace(0, least)", "replace(0, greatest)");
    // A wrong letter is refused also where no character has the letter c.
    refused(SOME, BAD_ARG, "replace(9, 26)", "replace(9, -1)", "replace(26, 26)", "replace(-1, -1)");
    refused(EMPTY, BAD_ARG, "replace(26, 0)", "replace(0, 26)", "replace(-1, 0)", "replace(0, -1)");
    refused(FULL_TEXT, BAD_ARG, "replace(26, 0)", "replace(0, 26)");

    sentence("Promise 9", "Otherwise how many there were");
    look(SOME, "replace(9, 0)", 0);
    look(SOME, "replace(0, 0)", 1);
    look(EMPTY, "replace(0, 25)", 0);
    look(EMPTY, "replace(0, 0)", 0);
    Subject shorter = made("b1 a3 a5 /0");
    shorter.callAs("remove(1, 3)");
    due("replace(0, 2) of removed characters", shorter.callAs("replace(0, 2)"), 0);
  }

  private static void length() {
    sentence("Promise 10", "n");
    look(EMPTY, "length()", 0);
    look("a1 /0", "length()", 1);
    look(fullPart(0, 63) + "/0", "length()", 63);
    look(FULL_TEXT, "length()", 64);
    Subject emptied = made(FULL_TEXT);
    emptied.callAs("remove(0, 64)");
    due("length() of the emptied text", emptied.callAs("length()"), 0);
  }

  private static void letterAndStyleAt() {
    sentence("Promise 11", "The letter at place p");
    look("a63 q9 z0 /3", "letter(0)", 0);
    look("a63 q9 z0 /3", "letter(2)", 25);
    look(FULL_TEXT, "letter(63)", 63 * 7 % 26);

    sentence("Promise 11", "NONE if there is none");
    refused(SOME, NONE, "letter(-1)", "letter(4)", "letter(63)", "letter(64)", "letter(least)", "letter(greatest)");
    refused(EMPTY, NONE, "letter(0)", "letter(-1)", "letter(64)");
    refused(FULL_TEXT, NONE, "letter(64)", "letter(-1)", "letter(greatest)");

    sentence("Promise 12", "The style at place p");
    look("a63 q9 z0 /3", "styleAt(0)", 63);
    look("a63 q9 z0 /3", "styleAt(2)", 0);
    look(FULL_TEXT, "styleAt(63)", 63);

    sentence("Promise 12", "NONE if there is none");
    refused(SOME, NONE, "styleAt(-1)", "styleAt(4)", "styleAt(63)", "styleAt(64)", "styleAt(least)",
        "styleAt(greatest)");
    refused(EMPTY, NONE, "styleAt(0)", "styleAt(-1)", "styleAt(64)");
    refused(FULL_TEXT, NONE, "styleAt(64)", "styleAt(-1)", "styleAt(greatest)");

    sentence("Promises 11, 12", "NONE if there is none: a removed one is none");
    Subject shorter = made(FULL_TEXT);
    shorter.callAs("remove(0, 60)");
    for (String call : new String[] {"letter(4)", "letter(63)", "styleAt(4)", "styleAt(63)"}) {
      due(call + " of a removed character", shorter.callAs(call), NONE);
    }
  }

  private static void runs() {
    sentence("Promise 13", "The number of runs");
    look(EMPTY, "runs()", 0);
    look("a0 /0", "runs()", 1);
    look(times(64, "a0") + "/0", "runs()", 1);
    look(FULL_TEXT, "runs()", 64);
    look("a0 b0 c1 /0", "runs()", 2);
    look("a0 b1 c1 /0", "runs()", 2);
    Subject joined = made("a1 b2 c1 /0");
    joined.callAs("remove(1, 2)");
    due("runs() once two have met", joined.callAs("runs()"), 1);
    joined.callAs("remove(0, 2)");
    due("runs() of the emptied text", joined.callAs("runs()"), 0);

    sentence("Promise 14", "The place at which run r begins");
    look(FULL_TEXT, "runBegin(0)", 0);
    look(FULL_TEXT, "runBegin(63)", 63);
    look("a7 b7 c9 d9 /0", "runBegin(0)", 0);
    look("a7 b7 c9 d9 /0", "runBegin(1)", 2);

    sentence("Promise 14", "NONE if there is none");
    refused("a7 b7 c9 d9 /0", NONE, "runBegin(-1)", "runBegin(2)", "runBegin(3)", "runBegin(least)",
        "runBegin(greatest)");
    refused(FULL_TEXT, NONE, "runBegin(64)", "runBegin(-1)");
    refused(EMPTY, NONE, "runBegin(0)", "runBegin(-1)", "runBegin(1)");

    sentence("Promise 15", "The style of run r");
    look(FULL_TEXT, "runStyle(0)", 0);
    look(FULL_TEXT, "runStyle(63)", 63);
    look("a63 b63 c0 d0 /0", "runStyle(0)", 63);
    look("a63 b63 c0 d0 /0", "runStyle(1)", 0);

    sentence("Promise 15", "NONE if there is none");
    refused("a7 b7 c9 d9 /0", NONE, "runStyle(-1)", "runStyle(2)", "runStyle(3)", "runStyle(least)",
        "runStyle(greatest)");
    refused(FULL_TEXT, NONE, "runStyle(64)", "runStyle(-1)");
    refused(EMPTY, NONE, "runStyle(0)", "runStyle(-1)", "runStyle(1)");
  }

  private static void runOf() {
    sentence("Promise 16", "The number of the run that has place p");
    look("a7 b7 c9 d9 /0", "runOf(0)", 0);
    look("a7 b7 c9 d9 /0", "runOf(1)", 0);
    look("a7 b7 c9 d9 /0", "runOf(2)", 1);
    look("a7 b7 c9 d9 /0", "runOf(3)", 1);
    look(FULL_TEXT, "runOf(63)", 63);
    look(times(64, "a0") + "/0", "runOf(63)", 0);

    sentence("Promise 16", "NONE if there is no place p");
    refused("a7 b7 c9 d9 /0", NONE, "runOf(-1)", "runOf(4)", "runOf(63)", "runOf(least)", "runOf(greatest)");
    refused(FULL_TEXT, NONE, "runOf(64)", "runOf(-1)");
    refused(EMPTY, NONE, "runOf(0)", "runOf(-1)");
  }

  private static void having() {
    sentence("Promise 17", "How many characters have all the parts in bits (the sum of some of 1, 2, 4)");
    int[] want = {64, 32, 32, 16, 32, 16, 16, 8};
    for (int bits = 0; bits <= 7; bits++) {
      look(FULL_TEXT, "having(" + bits + ")", want[bits]);
      look(EMPTY, "having(" + bits + ")", 0);
      look("a56 b0 /0", "having(" + bits + ")", bits == 0 ? 2 : 0);
      look("a7 b63 /0", "having(" + bits + ")", 2);
    }
    look("a1 b2 c4 /0", "having(3)", 0);
    look("a3 b5 c6 /0", "having(7)", 0);

    sentence("Promise 17", "BAD_ARG if bits is not 0 to 7");
    for (String text : new String[] {EMPTY, SOME, FULL_TEXT}) {
      refused(text, BAD_ARG, "having(-1)", "having(8)", "having(15)", "having(least)", "having(greatest)");
    }
  }

  private static void setFlagAndFlag() {
    sentence("Promise 18", "The flag becomes g");
    row(SOME, "setFlag(0)", 2, "a1 b3 c5 d63 /0");
    row(SOME, "setFlag(4)", 2, "a1 b3 c5 d63 /4");
    look(SOME, "setFlag(2)", 2);
    row(FULL_TEXT, "setFlag(64)", 30, fullPart(0, 64) + "/64");

    sentence("Promise 18", "BAD_ARG if g is not 0 to n");
    refused(SOME, BAD_ARG, "setFlag(-1)", "setFlag(5)", "setFlag(64)", "setFlag(least)", "setFlag(greatest)");
    look(EMPTY, "setFlag(0)", 0);
    refused(EMPTY, BAD_ARG, "setFlag(1)", "setFlag(-1)");
    refused(FULL_TEXT, BAD_ARG, "setFlag(65)", "setFlag(-1)");

    sentence("Promise 18", "Otherwise the flag before");
    row("a1 /0", "setFlag(1)", 0, "a1 /1");
    row("a1 /1", "setFlag(0)", 1, "a1 /0");
    row(fullPart(0, 64) + "/64", "setFlag(0)", 64, fullPart(0, 64) + "/0");

    sentence("Promise 19", "The flag");
    look(EMPTY, "flag()", 0);
    look("a1 /1", "flag()", 1);
    look(fullPart(0, 64) + "/0", "flag()", 0);
    look(fullPart(0, 64) + "/64", "flag()", 64);
  }

  private static void digest() {
    sentence("Promise 20", "The sum over the places p of (p + 1) times (64 times the letter plus the style)");
    look(EMPTY, "digest()", 0);
    look("a0 /0", "digest()", 0);
    look("a63 /0", "digest()", 63);
    look("b0 /0", "digest()", 64);
    look("z63 /1", "digest()", 1663);
    look("a0 a1 /0", "digest()", 2);
    look("a1 b2 z63 /2", "digest()", 1 + 2 * 66 + 3 * 1663);
    look(times(64, "z63") + "/0", "digest()", 3459040);
    look(times(63, "a0") + "z63 /64", "digest()", 64 * 1663);
  }

  private static void terms() {
    textLetterStyle();
    partsOfStyle();
    stretch();
    charactersOfStretch();
    run();
    flagItself();
    flagWhenPutIn();
    flagWhenRemoved();
    stretchTestedFirst();
    refusals();
    constants();
  }

  private static void editingPromises() {
    newObject();
    styleOfTyped();
    typeTests();
    putCounts();
    putTests();
    putFull();
    remove();
    move();
    moveOrderAndFlag();
    copy();
    style();
    styleOrderAndCount();
    toggle();
    replace();
  }

  private static void lookingPromises() {
    length();
    letterAndStyleAt();
    runs();
    runOf();
    having();
    setFlagAndFlag();
    digest();
  }

  public static void main(String[] args) {
    whatItIs();
    terms();
    editingPromises();
    lookingPromises();
    noteEmptySentence();
    String counts = sentences + " sentences, " + rows + " checks: ";
    System.out.println(counts + (wrong == 0 ? "all are as due" : wrong + " are not as due"));
    if (wrong != 0) System.exit(1);
  }
}
