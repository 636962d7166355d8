/** Calls of TagFlow with their answers as numbers, and the count of answers that are not as due. */
final class Check {
  /** What a call answers here that throws. */
  static final long ILLEGAL_STATE = -1001;
  static final long ILLEGAL_ARGUMENT = -1002;
  static final long ARITHMETIC = -1003;
  static final long NO_SUCH_ELEMENT = -1004;

  private static int answers = 0;
  private static int wrong = 0;

  private Check() {}

  static void due(String call, long got, long want) {
    answers++;
    if (got != want) {
      wrong++;
      System.out.println(call + " answered " + got + ", due is " + want);
    }
  }

  /** Ends the test: exit code 1 if an answer was wrong. */
  static void end() {
    System.out.println(answers + " answers, " + wrong + " not as due");
    if (wrong != 0 || answers == 0) {
      System.exit(1);
    }
  }

  static long bytes(String text) {
    long word = 0;
    for (int i = 0; i < text.length(); i++) {
      word = word << 8 | text.charAt(i);
    }
    return word;
  }

  /** Types a text, eight characters a call. */
  static void type(TagFlow x, String text) {
    for (int i = 0; i < text.length(); i += 8) {
      String part = text.substring(i, Math.min(text.length(), i + 8));
      due("type of '" + part + "'", x.type(bytes(part), part.length()) ? 1 : 0, 1);
    }
  }

  static long compile(TagFlow x) {
    try {
      return x.compile();
    } catch (IllegalArgumentException e) {
      return ILLEGAL_ARGUMENT;
    }
  }

  static long compile(TagFlow x, String text) {
    type(x, text);
    return compile(x);
  }

  static TagFlow program(String text) {
    TagFlow x = new TagFlow();
    due("compile of " + text, compile(x, text) > 0 ? 1 : 0, 1);
    due("fault(0) of " + text, x.fault(0), 0);
    return x;
  }

  static boolean start(TagFlow x, int n, long... given) {
    long[] all = java.util.Arrays.copyOf(given, 4);
    return x.start(n, all[0], all[1], all[2], all[3]);
  }

  static long fire(TagFlow x, int n, long schedule) {
    try {
      return x.fire(n, schedule);
    } catch (IllegalStateException e) {
      return ILLEGAL_STATE;
    } catch (IllegalArgumentException e) {
      return ILLEGAL_ARGUMENT;
    } catch (ArithmeticException e) {
      return ARITHMETIC;
    }
  }

  static long value(TagFlow x) {
    try {
      return x.value();
    } catch (java.util.NoSuchElementException e) {
      return NO_SUCH_ELEMENT;
    }
  }

  static long cell(TagFlow x, int i, int what) {
    try {
      return x.cell(i, what);
    } catch (java.util.NoSuchElementException e) {
      return NO_SUCH_ELEMENT;
    }
  }

  /** Starts FUNCTION 0 of a program and fires until nothing is left: its events, state and value. */
  static void run(String text, int events, int state, int kind, long value, long... given) {
    for (long schedule = -1; schedule <= 3; schedule++) {
      TagFlow x = program(text);
      String call = text + " with schedule " + schedule;
      due("start of " + call, start(x, 0, given) ? 1 : 0, 1);
      if (events > 0) {
        due("fire of " + call, fire(x, 2000, schedule), events);
      }
      due("count(0) of " + call, x.count(0), events);
      due("state of " + call, x.state(), state);
      due("kind of " + call, x.kind(), kind);
      due("value of " + call, value(x), value);
    }
  }

  static void fault(String text, int kind, int place) {
    TagFlow x = new TagFlow();
    long functions = compile(x, text);
    due("throw of compile of " + text, functions == ILLEGAL_ARGUMENT ? 1 : 0, kind == 0 ? 0 : 1);
    due("fault(0) of " + text, x.fault(0), kind);
    due("fault(1) of " + text, x.fault(1), place);
  }
}
