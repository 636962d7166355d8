/** Calls of TagFlow with their answers as numbers, and the count of answers that are not as due. */
final class Check {
  /** What a call answers here that throws. */
  static final long ILLEGAL_STATE = -1001;
  static final long ILLEGAL_ARGUMENT = -1002;
  static final long ARITHMETIC = -1003;
  static final long NO_SUCH_ELEMENT = -1004;

  private static int answers = 0;
  private static int wrong = 0;
  /** The words of the document that are under test, for the tests that go by these. */
  private static String sentence = "";

  private Check() {}

  static void due(String call, long got, long want) {
    answers++;
    if (got != want) {
      wrong++;
      String of = sentence.isEmpty() ? "" : " (\"" + sentence + "\")";
      System.out.println(call + " answered " + got + ", due is " + want + of);
    }
  }

  static void due(String call, boolean got, boolean want) {
    due(call, got ? 1 : 0, want ? 1 : 0);
  }

  /** A test of its own for some words of the document, which must stand there. */
  static void sentence(String words, Runnable test) {
    sentence = words;
    int before = answers;
    test.run();
    due("the number of tests of this is above 0", answers > before, true);
    due("it stands in the document", Document.has(words), true);
    sentence = "";
  }

  /** Ends the test: exit code 1 if an answer was wrong. */
  static void end() {
    System.out.println(answers + " answers, " + wrong + " not as due");
    if (wrong != 0 || answers == 0) {
      System.exit(1);
    }
  }

  static long bytes(String text) {
    long word = 0;
    for (int i = 0; i < text.length(); i++) {
      word = word << 8 | text.charAt(i);
    }
    return word;
  }

  /** Types a text, eight characters a call. */
  static void type(TagFlow x, String text) {
    for (int i = 0; i < text.length(); i += 8) {
      String part = text.substring(i, Math.min(text.length(), i + 8));
      due("type of '" + part + "'", x.type(bytes(part), part.length()) ? 1 : 0, 1);
    }
  }

  static long compile(TagFlow x) {
    try {
      return x.compile();
    } catch (IllegalArgumentException e) {
      return ILLEGAL_ARGUMENT;
    }
  }

  static long compile(TagFlow x, String text) {
    type(x, text);
    return compile(x);
  }

  static TagFlow program(String text) {
    TagFlow x = new TagFlow();
    due("compile of " + text, compile(x, text) > 0 ? 1 : 0, 1);
    due("fault(0) of " + text, x.fault(0), 0);
    return x;
  }

  static boolean start(TagFlow x, int n, long... given) {
    long[] all = java.util.Arrays.copyOf(given, 4);
    return x.start(n, all[0], all[1], all[2], all[3]);
  }

  static long fire(TagFlow x, int n, long schedule) {
    try {
      return x.fire(n, schedule);
    } catch (IllegalStateException e) {
      return ILLEGAL_STATE;
    } catch (IllegalArgumentException e) {
      return ILLEGAL_ARGUMENT;
    } catch (ArithmeticException e) {
      return ARITHMETIC;
    }
  }

  static long value(TagFlow x) {
    try {
      return x.value();
    } catch (java.util.NoSuchElementException e) {
      return NO_SUCH_ELEMENT;
    }
  }

  static long cell(TagFlow x, int i, int what) {
    try {
      return x.cell(i, what);
    } catch (java.util.NoSuchElementException e) {
      return NO_SUCH_ELEMENT;
    }
  }

  /** Starts FUNCTION 0 of a program and fires until nothing is left: its events, state and value. */
  static void run(String text, int events, int state, int kind, long value, long... given) {
    for (long schedule = -1; schedule <= 3; schedule++) {
      TagFlow x = program(text);
      String call = text + " with schedule " + schedule;
      due("start of " + call, start(x, 0, given) ? 1 : 0, 1);
      if (events > 0) {
        due("fire of " + call, fire(x, 2000, schedule), events);
      }
      due("count(0) of " + call, x.count(0), events);
      due("state of " + call, x.state(), state);
      due("kind of " + call, x.kind(), kind);
      due("value of " + call, value(x), value);
    }
  }

  /** Fires one EVENT a call: what is seen must not depend on the schedules, nor come early. */
  static void steps(String text, int events, int state, int kind, long value, long... given) {
    for (long schedule = 0; schedule < 3; schedule++) {
      TagFlow x = program(text);
      due("start of " + text, start(x, 0, given), true);
      for (int i = 1; i <= events; i++) {
        String call = text + " ahead of EVENT " + i + " with schedule " + schedule;
        due("state of " + call, x.state(), 1);
        due("kind of " + call, x.kind(), 0);
        due("value of " + call, value(x), NO_SUCH_ELEMENT);
        due("fire of " + call, fire(x, 1, schedule * i), i);
      }
      due("count(0) of " + text, x.count(0), events);
      due("state of " + text, x.state(), state);
      due("kind of " + text, x.kind(), kind);
      due("value of " + text, value(x), value);
    }
  }

  /** A tape without a FAULT. */
  static void sound(String text) {
    fault(text, 0, 0);
  }

  /** A tape with a ^ (which is no TOKEN) where the FAULT is; without that, at its end. */
  static void faultAt(int kind, String marked) {
    int mark = marked.indexOf('^');
    String text = marked.replace("^", "");
    fault(text, kind, mark < 0 ? text.length() : mark);
  }

  static void fault(String text, int kind, int place) {
    TagFlow x = new TagFlow();
    long functions = compile(x, text);
    due("throw of compile of " + text, functions == ILLEGAL_ARGUMENT ? 1 : 0, kind == 0 ? 0 : 1);
    due("fault(0) of " + text, x.fault(0), kind);
    due("fault(1) of " + text, x.fault(1), place);
  }
}
