/** The boundary cases of promises 1 to 11: each call at its limits, and refused. */
public final class CallBoundaryTest {
  private static final long NO = Check.NO_SUCH_ELEMENT;
  private static final String NEVER = "never()=(tab z[i<1] of z[0])[0];";
  /** Neither a what, an n of type, a FUNCTION nor a cell, though some would be if cut to a byte. */
  private static final int[] FAR = {
    -1, -2, 100, 256, 257, 258, 65536, 65537, Integer.MIN_VALUE, Integer.MIN_VALUE + 1, Integer.MAX_VALUE,
  };

  public static void main(String[] args) {
    Check.sentence(
        "An object is used for at most 512 calls after it has been made", CallBoundaryTest::calls512);
    Check.sentence("public static final int NONE = -1", CallBoundaryTest::none);
    Check.sentence("makes an object in the state that the terms give", CallBoundaryTest::newObject);
    type();
    compile();
    fault();
    start();
    fire();
    results();
    count();
    Check.end();
  }

  private static void calls512() {
    String text = "f(n)=" + "-".repeat(493) + "n;";
    TagFlow x = new TagFlow();
    for (char c : text.toCharArray()) {
      Check.due("type", x.type(c, 1), true);
    }
    Check.due("call 501", Check.compile(x), 1);
    for (int run = 0; run < 5; run++) {
      Check.due("start", Check.start(x, 0, run + 1), true);
      Check.due("fire", Check.fire(x, 2000, run), 493);
    }
    Check.due("call 512", Check.value(x), -5);
    fullTapes("f(n)=" + "-".repeat(493) + "n;", 1);
    fullTapes("f(n)=" + "n+".repeat(246) + "n ;", 1);
    fullTapes("f(n)=" + "-".repeat(495), Check.ILLEGAL_ARGUMENT);
    fullTapes("f(n)=" + "if ".repeat(165), Check.ILLEGAL_ARGUMENT);
    fullTapes("f()=" + "loop a=".repeat(70) + "loop a", Check.ILLEGAL_ARGUMENT);
    fullTapes("f()=" + "let a=".repeat(82) + "   ?", Check.ILLEGAL_ARGUMENT);
  }

  /** A tape of 500 characters eight times: 512 calls, each time as if it were the first one. */
  private static void fullTapes(String text, long due) {
    TagFlow x = new TagFlow();
    Check.due("characters of " + text, text.length(), 500);
    for (int i = 0; i < 8; i++) {
      Check.due("compile of " + text, Check.compile(x, text), due);
    }
  }

  private static void none() {
    Check.due("NONE", TagFlow.NONE, -1);
  }

  private static void newObject() {
    TagFlow x = new TagFlow();
    Check.due("state", x.state(), 0);
    Check.due("kind", x.kind(), 0);
    Check.due("value", Check.value(x), NO);
    for (int what = 0; what < 2; what++) {
      Check.due("cell", Check.cell(x, 0, what), NO);
      Check.due("fault", x.fault(what), 0);
    }
    for (int what = 0; what < 4; what++) {
      Check.due("count", x.count(what), 0);
    }
    Check.due("start", Check.start(x, 0), false);
    Check.due("fire", Check.fire(x, 1, 0), Check.ILLEGAL_STATE);
    Check.due("compile", Check.compile(x), Check.ILLEGAL_ARGUMENT);
  }

  // Promise 2.

  private static void type() {
    Check.sentence(
        "The n (1 .. 8) lowest bytes of word, the highest first, go to the tape: true",
        CallBoundaryTest::lowestBytes);
    Check.sentence("false, changing nothing, for another n", CallBoundaryTest::anotherLength);
    Check.sentence("a byte that is not 32 .. 126", CallBoundaryTest::wrongByte);
    Check.sentence("or if it would have more than 500", CallBoundaryTest::fullTape);
  }

  private static void lowestBytes() {
    String text = "f()=8642";
    for (int n = 1; n <= 8; n++) {
      TagFlow x = new TagFlow();
      Check.type(x, text.substring(0, 8 - n));
      Check.due("type of " + n, x.type(Check.bytes(text), n), true);
      Check.due("compile", Check.compile(x, ";"), 1);
      Check.start(x, 0);
      Check.due("value", Check.value(x), 8642);
    }
    TagFlow x = new TagFlow();
    Check.due("what is above n is of no account", x.type(0xff0a7f0066282900L >> 8, 3), true);
    Check.due("nor is a sign", x.type(0xffff_ffff_ffff_ff3dL, 1), true);
    Check.due("type", x.type(0x8000_0000_0000_373bL, 2), true);
    Check.due("compile", Check.compile(x), 1);
    Check.start(x, 0);
    Check.due("value", Check.value(x), 7);
  }

  private static void anotherLength() {
    TagFlow x = new TagFlow();
    Check.type(x, "f()");
    Check.due("n 0", x.type(Check.bytes("????????"), 0), false);
    Check.due("n 9", x.type(Check.bytes("????????"), 9), false);
    for (int n : FAR) {
      Check.due("n " + n, x.type(Check.bytes("????????"), n), false);
    }
    Check.due("nothing has changed", Check.compile(x, "=1;"), 1);
  }

  private static void wrongByte() {
    for (int b = 0; b < 256; b++) {
      boolean right = b >= 32 && b <= 126;
      TagFlow x = new TagFlow();
      for (int n = 1; n <= 8; n++) {
        for (int i = 0; i < n; i++) {
          long mask = 255L << 8 * i;
          long word = (0x2020202020202020L & ~mask) | (long) b << 8 * i;
          Check.due("byte " + b + " at " + i + " of " + n, x.type(word, n), right);
        }
        long above = n < 8 ? (long) b << 8 * n | (0x2020202020202020L & ~(-1L << 8 * n)) : 0;
        Check.due("byte " + b + " above " + n, n == 8 || x.type(above, n), true);
      }
      Check.due("compile", Check.compile(x), Check.ILLEGAL_ARGUMENT);
      // Without the wrong bytes the blanks above them are all: 1 + 2 + .. + 7.
      Check.due("kind", x.fault(0), 1);
      if (!right) {
        Check.due("nothing has changed", x.fault(1), 28);
      }
    }
  }

  private static void fullTape() {
    for (int n = 1; n <= 8; n++) {
      TagFlow x = new TagFlow();
      Check.type(x, "f()=1;" + " ".repeat(495 - n));
      Check.due(n + " to 501", x.type(Check.bytes("????????"), n), false);
      for (int i = 1; i < n; i++) {
        Check.due("one of the last", x.type(' ', 1), true);
      }
      Check.due(n + " more than 500", x.type(Check.bytes("????????"), n), false);
      Check.due("nothing has changed", Check.compile(x), 1);
      Check.type(x, "f()=1;" + " ".repeat(494 - n));
      Check.due(n + " to 500", x.type(Check.bytes("       ?"), n), true);
      Check.due("compile", Check.compile(x), Check.ILLEGAL_ARGUMENT);
      Check.due("the last one", x.fault(1), 499);
    }
  }

  // Promise 3.

  private static void compile() {
    Check.sentence(
        "The tape (which is empty then in any case) is the PROGRAM", CallBoundaryTest::emptied);
    Check.sentence("(there is no RUN then; EVENTS in all and RUNS go on)", CallBoundaryTest::noRunThen);
    Check.sentence("how many FUNCTIONS", CallBoundaryTest::howMany);
    Check.sentence(
        "IllegalArgumentException: it has a FAULT (all stays as it is)", CallBoundaryTest::allStays);
  }

  private static void emptied() {
    TagFlow x = new TagFlow();
    String[] faults = {"f()=1", "f()=n;", "f()=true;", "?", " "};
    for (String text : faults) {
      Check.due("compile of " + text, Check.compile(x, text), Check.ILLEGAL_ARGUMENT);
      Check.due("it is gone", Check.compile(x), Check.ILLEGAL_ARGUMENT);
      Check.due("place", x.fault(1), 0);
    }
    Check.due("compile", Check.compile(x, "f()=1;"), 1);
    Check.due("it is gone", Check.compile(x), Check.ILLEGAL_ARGUMENT);
    Check.due("compile", Check.compile(x, "g()=2;f()=1;"), 2);
    String[][] longAndShort = {{"f()=12345678901", "f()=1"}, {"f()=abcdefghi", "f()=a"}, {"f()=1;", "f()=1"}};
    for (String[] pair : longAndShort) {
      Check.due("the longer one", Check.compile(x, pair[0] + "?"), Check.ILLEGAL_ARGUMENT);
      Check.due("the shorter one", Check.compile(x, pair[1]), Check.ILLEGAL_ARGUMENT);
      Check.due("ends where it ends", x.fault(1), 5);
    }
    Check.due("calls of none", Check.compile(x, "f(n)=g(g(g(g(g(1)))));"), Check.ILLEGAL_ARGUMENT);
    Check.due("are gone", Check.compile(x, "f(n)=n;"), 1);
    Check.due("a full one", Check.compile(x, "f()=1;" + " ".repeat(494)), 1);
    Check.due("another full one", Check.compile(x, "f()=5;" + " ".repeat(494)), 1);
    Check.start(x, 0);
    Check.due("the PROGRAM", Check.value(x), 5);
  }

  private static void noRunThen() {
    String[] runs = {"f()=1;", "f()=1+1;", "f()=never();" + NEVER, "f()=f();"};
    for (String text : runs) {
      TagFlow x = Check.program(text);
      Check.start(x, 0);
      if (x.state() == 1) {
        Check.fire(x, 2000, 0);
      }
      int events = x.count(1);
      Check.due("compile", Check.compile(x, "x()=tab z[i<1] of 1;"), 1);
      Check.due("state", x.state(), 0);
      Check.due("kind", x.kind(), 0);
      Check.due("value", Check.value(x), NO);
      Check.due("cell", Check.cell(x, 0, 0), NO);
      Check.due("fire", Check.fire(x, 1, 0), Check.ILLEGAL_STATE);
      Check.due("EVENTS of the RUN", x.count(0), 0);
      Check.due("EVENTS in all", x.count(1), events);
      Check.due("RUNS", x.count(3), 1);
      Check.start(x, 0);
      Check.fire(x, 2000, 0);
      Check.due("EVENTS in all", x.count(1), events + 2);
      Check.due("RUNS", x.count(3), 2);
    }
    TagFlow x = Check.program("f()=1+1;");
    Check.start(x, 0);
    Check.due("compile under way", Check.compile(x, "f()=1+1;"), 1);
    Check.due("state", x.state(), 0);
  }

  private static void howMany() {
    TagFlow x = new TagFlow();
    StringBuilder text = new StringBuilder();
    for (int i = 1; i <= 8; i++) {
      text.append((char) ('a' + i)).append("()=1;");
      Check.due("compile", Check.compile(x, text.toString()), i);
      Check.due("count(2)", x.count(2), i);
    }
    Check.due("fewer again", Check.compile(x, "f()=1;"), 1);
    Check.due("count(2)", x.count(2), 1);
    Check.due("start of one that was", Check.start(x, 1), false);
  }

  private static void allStays() {
    String[] faults = {"", "f()=1", "f()=n;", "f()=true;", "a()=1;b()=2;c()=n;"};
    for (String text : faults) {
      TagFlow x = Check.program("f(n)=n+1+2;x(n)=tab z[i<n] of i+n;");
      Check.due("without a RUN", Check.compile(x, text), Check.ILLEGAL_ARGUMENT);
      Check.due("state", x.state(), 0);
      Check.due("FUNCTIONS", x.count(2), 2);
      Check.start(x, 0, 5);
      Check.fire(x, 1, 0);
      Check.due("under way", Check.compile(x, text), Check.ILLEGAL_ARGUMENT);
      Check.due("state", x.state(), 1);
      Check.due("EVENTS", x.count(0), 1);
      Check.due("fire", Check.fire(x, 2000, 0), 2);
      Check.due("value", Check.value(x), 8);
      Check.start(x, 1, 3);
      Check.fire(x, 2000, 0);
      Check.due("ended", Check.compile(x, text), Check.ILLEGAL_ARGUMENT);
      Check.due("state", x.state(), 2);
      Check.due("kind", x.kind(), 3);
      Check.due("value", Check.value(x), 3);
      Check.due("cell", Check.cell(x, 2, 1), 5);
      Check.due("EVENTS", x.count(0), 7);
      Check.due("EVENTS in all", x.count(1), 9);
      Check.due("FUNCTIONS", x.count(2), 2);
      Check.due("RUNS", x.count(3), 2);
      Check.due("start", Check.start(x, 1, 0), true);
      Check.due("fire", Check.fire(x, 2000, 0), 1);
    }
  }

  // Promise 4.

  private static void fault() {
    Check.sentence(
        "The FAULT of the latest compile(), what 0: its kind (0 without), 1: its place (0 without)",
        CallBoundaryTest::latestFault);
    Check.sentence("0, 0 ahead of any", CallBoundaryTest::aheadOfAny);
    Check.sentence("NONE for another what", CallBoundaryTest::anotherWhatOfFault);
  }

  private static void faultIs(TagFlow x, int kind, int place) {
    Check.due("kind", x.fault(0), kind);
    Check.due("place", x.fault(1), place);
  }

  private static void latestFault() {
    TagFlow x = new TagFlow();
    Check.compile(x, "f()=1 ?");
    faultIs(x, 1, 6);
    Check.compile(x, "f(n)=n+m;");
    faultIs(x, 2, 7);
    Check.compile(x, "f(n)=true;");
    faultIs(x, 3, 5);
    Check.compile(x, "f(n)=n+1;");
    faultIs(x, 0, 0);
    Check.compile(x, "f(n)=");
    faultIs(x, 1, 5);
    Check.type(x, "f()=1;");
    Check.due("type of a wrong n", x.type(0, 0), false);
    Check.start(x, 0, 1);
    Check.fire(x, 2000, 0);
    faultIs(x, 1, 5);
    Check.compile(x);
    faultIs(x, 0, 0);
    Check.compile(x);
    faultIs(x, 1, 0);
    Check.compile(x, "f()=1" + " ".repeat(495));
    faultIs(x, 1, 500);
  }

  private static void aheadOfAny() {
    TagFlow x = new TagFlow();
    faultIs(x, 0, 0);
    Check.type(x, "?");
    faultIs(x, 0, 0);
    Check.compile(x);
    faultIs(x, 1, 0);
  }

  private static void anotherWhatOfFault() {
    for (String text : new String[] {"f()=1;", "f()=m;", ""}) {
      TagFlow x = new TagFlow();
      for (int i = 0; i < 2; i++) {
        Check.due("fault(2)", x.fault(2), TagFlow.NONE);
        for (int what : FAR) {
          Check.due("fault " + what, x.fault(what), TagFlow.NONE);
        }
        Check.compile(x, text);
      }
    }
  }

  // Promise 5.

  private static void start() {
    Check.sentence("A RUN of the n-th FUNCTION (from 0 on) begins", CallBoundaryTest::nth);
    Check.sentence(
        "with as many of these numbers as it has parameters", CallBoundaryTest::asManyNumbers);
    Check.sentence("(in place of a RUN that was): true", CallBoundaryTest::inPlace);
    Check.sentence(
        "False, changing nothing, if there is none such (or no PROGRAM)", CallBoundaryTest::noneSuch);
    Check.sentence("or a parameter is no number", CallBoundaryTest::noNumber);
  }

  private static void nth() {
    TagFlow x = Check.program("a()=0;b()=1;c()=2;d()=3;e()=4;f()=5;g()=6;h()=7;");
    for (int n = 7; n >= 0; n--) {
      Check.due("start of " + n, Check.start(x, n), true);
      Check.due("value of " + n, Check.value(x), n);
    }
  }

  private static void asManyNumbers() {
    Check.run("f()=7;", 0, 2, 1, 7, 1, 2, 3, 4);
    Check.run("f(a)=a;", 0, 2, 1, 1, 1, 2, 3, 4);
    Check.run("f(a,b)=a*10+b;", 2, 2, 1, 12, 1, 2, 3, 4);
    Check.run("f(a,b,c)=a*100+b*10+c;", 4, 2, 1, 123, 1, 2, 3, 4);
    Check.run("f(a,b,c,d)=a*1000+b*100+c*10+d;", 6, 2, 1, 1234, 1, 2, 3, 4);
    for (long a : new long[] {0, -1, Long.MIN_VALUE, Long.MAX_VALUE}) {
      Check.run("f(d,c,b,a)=a;", 0, 2, 1, a, 5, 5, 5, a);
    }
  }

  private static void inPlace() {
    TagFlow x = Check.program("f(n)=n+n+n;g()=never();x(n)=tab z[i<n] of i;e()=e();" + NEVER);
    Check.start(x, 0, 1);
    Check.fire(x, 1, 0);
    int[][] runs = {{0, 2, 2, 1}, {1, 3, 3, 0}, {2, 3, 2, 3}, {3, 1000, 4, 0}, {0, 2, 2, 1}};
    for (int[] run : runs) {
      Check.due("start", Check.start(x, run[0], 2), true);
      Check.due("EVENTS", x.count(0), 0);
      Check.due("state", x.state(), 1);
      Check.due("kind", x.kind(), 0);
      Check.due("value", Check.value(x), NO);
      Check.due("cell", Check.cell(x, 0, 0), NO);
      Check.due("fire", Check.fire(x, 2000, 0), run[1]);
      Check.due("state", x.state(), run[2]);
      Check.due("kind", x.kind(), run[3]);
    }
    Check.due("value", Check.value(x), 6);
    Check.due("EVENTS in all", x.count(1), 1 + 2 + 3 + 3 + 1000 + 2);
    Check.due("RUNS", x.count(3), 6);
  }

  private static void noneSuch() {
    TagFlow x = new TagFlow();
    for (int round = 0; round < 2; round++) {
      Check.due("no PROGRAM", Check.start(x, 0, 1), false);
      Check.due("RUNS", x.count(3), 0);
      Check.due("state", x.state(), 0);
      Check.compile(x, "f()=n;");
    }
    Check.compile(x, "f(n)=n*n;g(n)=n+n;");
    Check.start(x, 1, 4);
    for (int i = 0; i < 2; i++) {
      Check.due("start(2)", Check.start(x, 2, 1), false);
      for (int n : FAR) {
        Check.due("start of " + n, Check.start(x, n, 1), false);
      }
      Check.due("state", x.state(), 1 + i);
      Check.due("RUNS", x.count(3), 1);
      Check.due("EVENTS", x.count(0), i);
      Check.due("value", Check.value(x), i == 0 ? NO : 8);
      if (i == 0) {
        Check.fire(x, 1, 0);
      }
    }
  }

  private static void noNumber() {
    String[] parameters = {"s", "x", "a,s", "s,a", "a,b,c,u", "a,b,c,v", "t,b,c,d", "a,b,z,d", "s,t,x,y"};
    for (String row : parameters) {
      TagFlow x = Check.program("f(n)=n+1;g(" + row + ")=1;h(a,b,c,d)=d;");
      Check.start(x, 0, 7);
      Check.due("start with " + row, Check.start(x, 1, 1, 1, 1, 1), false);
      Check.due("state", x.state(), 1);
      Check.due("fire", Check.fire(x, 5, 5), 1);
      Check.due("start with " + row, Check.start(x, 1, 0, 0, 0, 0), false);
      Check.due("value", Check.value(x), 8);
      Check.due("EVENTS", x.count(0), 1);
      Check.due("RUNS", x.count(3), 1);
      Check.due("start of the next one", Check.start(x, 2, 1, 2, 3, 4), true);
      Check.due("value", Check.value(x), 4);
    }
  }

  // Promise 6.

  private static void fire() {
    Check.sentence("At most n (1 .. 2000) EVENTS", CallBoundaryTest::atMost);
    Check.sentence(
        "in an order that the schedule tells (any order: nothing that is seen depends on it)",
        CallBoundaryTest::anySchedule);
    Check.sentence("how many have happened since start()", CallBoundaryTest::sinceStart);
    Check.sentence(
        "IllegalStateException: no RUN is under way (none at all, ended, or TOO LONG)",
        CallBoundaryTest::notUnderWay);
    Check.sentence("IllegalArgumentException: another n", CallBoundaryTest::anotherN);
    Check.sentence(
        "ArithmeticException, changing nothing: no EVENT is left in all", CallBoundaryTest::noneLeft);
    Check.sentence("(5000 for all RUNS, whatever is compiled;", CallBoundaryTest::fiveThousand);
    Check.sentence("if fewer than n are left, so many", CallBoundaryTest::fewerLeft);
    Check.sentence("(Asked in this order.)", CallBoundaryTest::askedInOrder);
  }

  private static void atMost() {
    TagFlow x = Check.program("f(n)=loop k=0 while k<n next k=k+1 give k;");
    int[] steps = {1, 1, 2, 3, 100, 990};
    Check.start(x, 0, 1000);
    int fired = 0;
    for (int n : steps) {
      fired = Math.min(1000, fired + n);
      Check.due("fire of " + n, Check.fire(x, n, n), fired);
      Check.due("count(0)", x.count(0), fired);
    }
    Check.due("state", x.state(), 4);
    Check.start(x, 0, 100);
    Check.due("fire of 2000", Check.fire(x, 2000, 1), 302);
    Check.start(x, 0, 100);
    Check.due("fire of 301", Check.fire(x, 301, 1), 301);
    Check.due("state", x.state(), 1);
    Check.due("fire of 1", Check.fire(x, 1, 1), 302);
    Check.due("state", x.state(), 2);
    Check.start(x, 0, 100);
    Check.due("fire of 302", Check.fire(x, 302, 1), 302);
    Check.due("state", x.state(), 2);
  }

  private static void anySchedule() {
    String text = "f(n)=if n<2 then n else f(n-1)+f(n-2);";
    for (int bit = 0; bit < 64; bit++) {
      TagFlow x = Check.program(text);
      for (long schedule : new long[] {1L << bit, -1L << bit}) {
        Check.start(x, 0, 6);
        Check.due("fire", Check.fire(x, 40, schedule), 40);
        Check.due("state", x.state(), 1);
        Check.due("fire", Check.fire(x, 2000, -schedule), 110);
        Check.due("value", Check.value(x), 8);
      }
    }
  }

  private static void sinceStart() {
    TagFlow x = Check.program("f(n)=n+1+2+3+4;");
    for (int run = 0; run < 3; run++) {
      Check.start(x, 0, 1);
      Check.due("fire", Check.fire(x, 1, 0), 1);
      Check.due("fire", Check.fire(x, 2, 0), 3);
      Check.due("EVENTS in all", x.count(1), 4 * run + 3);
      Check.due("fire", Check.fire(x, 2000, 0), 4);
    }
  }

  private static void notUnderWay() {
    TagFlow x = new TagFlow();
    Check.due("a new object", Check.fire(x, 1, 0), Check.ILLEGAL_STATE);
    Check.compile(x, "f()=1;g()=1+1;e()=e();h()=1/0;never()=(tab z[i<1] of z[0])[0];");
    Check.due("none at all", Check.fire(x, 1, 0), Check.ILLEGAL_STATE);
    for (int n = 0; n < 5; n++) {
      Check.start(x, n);
      if (n > 0) {
        Check.fire(x, 2000, 0);
      }
      int events = x.count(0);
      Check.due("state above 1", x.state() > 1, true);
      Check.due("fire", Check.fire(x, 1, 0), Check.ILLEGAL_STATE);
      Check.due("fire", Check.fire(x, 2000, 0), Check.ILLEGAL_STATE);
      Check.due("EVENTS", x.count(0), events);
    }
    Check.compile(x, "f()=1+1;");
    Check.due("behind compile", Check.fire(x, 1, 0), Check.ILLEGAL_STATE);
  }

  private static void anotherN() {
    TagFlow x = Check.program("f()=1+1+1;");
    Check.start(x, 0);
    int[] wrong = {0, -1, -2000, 2001, 2002, 65537, Integer.MIN_VALUE, Integer.MAX_VALUE};
    for (int i = 0; i < 2; i++) {
      for (int n : wrong) {
        Check.due("fire of " + n, Check.fire(x, n, 0), Check.ILLEGAL_ARGUMENT);
      }
      Check.due("EVENTS", x.count(0), i);
      Check.due("EVENTS in all", x.count(1), i);
      Check.due("state", x.state(), 1);
      Check.due("fire", Check.fire(x, i == 0 ? 1 : 2000, 0), i + 1);
    }
  }

  /** An object of which so many EVENTS have happened, up to 5000, and no RUN is under way. */
  private static TagFlow spent(int events, String text) {
    TagFlow x = Check.program("e()=e();");
    for (int left = events; left > 0; left -= 1000) {
      Check.start(x, 0);
      Check.fire(x, Math.min(left, 1000), left);
    }
    Check.due("compile", Check.compile(x, text) > 0, true);
    Check.due("EVENTS in all", x.count(1), events);
    return x;
  }

  private static void noneLeft() {
    TagFlow x = spent(4998, "f()=1+1+1+1;");
    Check.start(x, 0);
    Check.due("fire", Check.fire(x, 2, 0), 2);
    for (int i = 0; i < 3; i++) {
      Check.due("fire", Check.fire(x, 1 + 999 * i, i), Check.ARITHMETIC);
      Check.due("state", x.state(), 1);
      Check.due("kind", x.kind(), 0);
      Check.due("value", Check.value(x), NO);
      Check.due("EVENTS", x.count(0), 2);
      Check.due("EVENTS in all", x.count(1), 5000);
      Check.due("RUNS", x.count(3), 6);
    }
    Check.due("start", Check.start(x, 0), true);
    Check.due("fire", Check.fire(x, 1, 0), Check.ARITHMETIC);
    Check.due("EVENTS", x.count(0), 0);
    Check.due("RUNS", x.count(3), 7);
  }

  private static void fiveThousand() {
    TagFlow x = new TagFlow();
    for (int run = 0; run < 5; run++) {
      Check.due("compile", Check.compile(x, "f()=f();"), 1);
      Check.due("with a FAULT", Check.compile(x, "f()=n;"), Check.ILLEGAL_ARGUMENT);
      Check.start(x, 0);
      Check.due("fire", Check.fire(x, 2000, 0), 1000);
      Check.due("state", x.state(), 4);
      Check.due("EVENTS in all", x.count(1), 1000 * run + 1000);
    }
    Check.due("compile", Check.compile(x, "f()=f();"), 1);
    Check.start(x, 0);
    Check.due("fire", Check.fire(x, 1, 0), Check.ARITHMETIC);
    TagFlow y = spent(4999, "f()=1+1;");
    Check.start(y, 0);
    Check.due("the 5000th", Check.fire(y, 1, 0), 1);
    Check.due("ends the RUN", y.state(), 2);
    Check.due("value", Check.value(y), 2);
    Check.due("no RUN is under way", Check.fire(y, 1, 0), Check.ILLEGAL_STATE);
  }

  private static void fewerLeft() {
    for (int left = 1; left <= 4; left++) {
      TagFlow x = spent(5000 - left, "f()=1+1+1+1+1;");
      Check.start(x, 0);
      Check.due("fire", Check.fire(x, left == 4 ? 3 : 2000, 0), Math.min(left, 3));
      Check.due("state", x.state(), 1);
      Check.due("fire", Check.fire(x, 2000, 0), left == 4 ? 4 : Check.ARITHMETIC);
      Check.due("EVENTS", x.count(0), left);
      Check.due("EVENTS in all", x.count(1), 5000);
      Check.due("state", x.state(), left == 4 ? 2 : 1);
    }
    TagFlow x = spent(4001, "f()=f();");
    Check.start(x, 0);
    Check.due("999 are left", Check.fire(x, 2000, 0), 999);
    Check.due("state", x.state(), 1);
    TagFlow y = spent(4000, "f()=f();");
    Check.start(y, 0);
    Check.due("1000 are left", Check.fire(y, 2000, 0), 1000);
    Check.due("state", y.state(), 4);
    Check.due("fire", Check.fire(y, 1, 0), Check.ILLEGAL_STATE);
  }

  private static void askedInOrder() {
    TagFlow x = spent(5000, "f()=1+1;");
    Check.due("no RUN, wrong n, none left", Check.fire(x, 0, 0), Check.ILLEGAL_STATE);
    Check.due("no RUN, none left", Check.fire(x, 1, 0), Check.ILLEGAL_STATE);
    Check.start(x, 0);
    Check.due("wrong n, none left", Check.fire(x, 0, 0), Check.ILLEGAL_ARGUMENT);
    Check.due("wrong n, none left", Check.fire(x, 2001, 0), Check.ILLEGAL_ARGUMENT);
    Check.due("none left", Check.fire(x, 2000, 0), Check.ARITHMETIC);
    TagFlow y = Check.program("f()=1;");
    Check.due("no RUN, wrong n", Check.fire(y, 0, 0), Check.ILLEGAL_STATE);
    Check.start(y, 0);
    Check.due("ended, wrong n", Check.fire(y, 2001, 0), Check.ILLEGAL_STATE);
  }

  // Promises 7 to 10.

  private static void results() {
    Check.sentence(
        "0 no RUN, 1 under way (also when no EVENTS are left in all), 2 ended with a value, 3 DEADLOCK, "
            + "4 TOO LONG",
        CallBoundaryTest::states);
    Check.sentence("(A RUN without EVENTS has ended at once.)", CallBoundaryTest::endedAtOnce);
    Check.sentence(
        "Of the RUN's value: 1 a number, 2 a truth, 3 a table, 4 an ERROR; 0 if it has not ended with one",
        CallBoundaryTest::kinds);
    Check.sentence(
        "The RUN's value: a number; 1 or 0; how many cells; which ERROR", CallBoundaryTest::values);
    Check.sentence("NoSuchElementException: there is none.", CallBoundaryTest::noValue);
    Check.sentence("what 0: 1 a number, 4 an ERROR, 0 nothing ever came", CallBoundaryTest::kindsOfCells);
    Check.sentence(
        "1: the number, or which ERROR (0 for nothing)", CallBoundaryTest::numbersOfCells);
    Check.sentence(
        "NoSuchElementException: there is no such cell", CallBoundaryTest::noSuchCell);
    Check.sentence("there is no such cell, or another what", CallBoundaryTest::anotherWhatOfCell);
  }

  private static void states() {
    TagFlow x = new TagFlow();
    Check.due("a new object", x.state(), 0);
    Check.compile(x, "f()=1+1;e()=e();" + NEVER);
    Check.due("no RUN", x.state(), 0);
    int[] due = {2, 4, 3};
    for (int n = 0; n < 3; n++) {
      Check.start(x, n);
      Check.due("under way", x.state(), 1);
      Check.fire(x, 2000, 0);
      Check.due("state of " + n, x.state(), due[n]);
    }
    TagFlow y = spent(5000, "f()=1+1;");
    Check.due("no RUN, none left", y.state(), 0);
    Check.start(y, 0);
    Check.due("under way, none left", y.state(), 1);
    Check.due("kind", y.kind(), 0);
  }

  private static void endedAtOnce() {
    String[] texts = {
      "f(n)=n;", "f(n)=7;", "t(n)=true;", "f(n)=let a=n in (a);", "f(n)=let s=true in let a=n in n;",
    };
    for (String text : texts) {
      TagFlow x = Check.program(text);
      Check.start(x, 0, 5);
      Check.due("state of " + text, x.state(), 2);
      Check.due("EVENTS of " + text, x.count(0), 0);
      Check.due("fire of " + text, Check.fire(x, 1, 0), Check.ILLEGAL_STATE);
    }
    TagFlow y = spent(5000, "f(n)=n;");
    Check.start(y, 0, 9);
    Check.due("with none left", y.state(), 2);
    Check.due("value", Check.value(y), 9);
  }

  private static void kinds() {
    String[] texts = {"f()=1+1;", "t()=1=2;", "x()=tab z[i<1] of i;", "f()=1/0;", "f()=never();" + NEVER,
      "f()=f();"};
    int[] due = {1, 2, 3, 4, 0, 0};
    for (int i = 0; i < texts.length; i++) {
      TagFlow x = Check.program(texts[i]);
      Check.due("no RUN", x.kind(), 0);
      Check.start(x, 0);
      Check.due("under way", x.kind(), 0);
      Check.fire(x, 2000, 0);
      Check.due("kind of " + texts[i], x.kind(), due[i]);
    }
    Check.run("t()=1/0=1;", 2, 2, 4, 1);
    Check.run("x()=tab z[i<1/0] of i;", 2, 2, 4, 1);
    Check.steps("f()=let a=1+1 in 5;", 1, 2, 1, 5);
  }

  private static void values() {
    Check.run("f(n)=n;", 0, 2, 1, Long.MIN_VALUE, Long.MIN_VALUE);
    Check.run("f(n)=n;", 0, 2, 1, -1, -1);
    Check.run("f(n)=n;", 0, 2, 1, 0, 0);
    Check.run("t(n)=n<1;", 1, 2, 2, 1, 0);
    Check.run("t(n)=n<1;", 1, 2, 2, 0, 1);
    for (int n = 0; n <= 20; n++) {
      Check.run("x(n)=tab z[i<n] of 99;", n + 1, 2, 3, n, n);
    }
    Check.run("f()=1/0;", 1, 2, 4, 1);
    Check.run("f()=(tab z[i<0] of 1)[0];", 2, 2, 4, 2);
    Check.run("x()=tab z[i<21] of 1;", 1, 2, 4, 3);
  }

  private static void noValue() {
    TagFlow x = new TagFlow();
    Check.due("a new object", Check.value(x), NO);
    Check.compile(x, "f()=1+1;e()=e();" + NEVER);
    Check.due("no RUN", Check.value(x), NO);
    for (int n = 0; n < 3; n++) {
      Check.start(x, n);
      Check.due("under way", Check.value(x), NO);
      Check.fire(x, 2000, 0);
      Check.due("behind the RUN of " + n, Check.value(x), n == 0 ? 2 : NO);
    }
    Check.run("f()=-1001-3;", 2, 2, 1, -1004);
  }

  /** A table with a number, each ERROR, a 0 and nothing in its cells. */
  private static TagFlow mixed() {
    TagFlow x = Check.program("x()=tab z[i<6] of if i<2 then (i-1)*9 else if i=2 then 1/0 else if i=3 "
        + "then z[i+3] else if i=4 then (tab y[j<-i] of 1)[0] else z[i];");
    Check.due("start", Check.start(x, 0), true);
    Check.due("cell under way", Check.cell(x, 0, 0), NO);
    Check.fire(x, 2000, 7);
    Check.due("state", x.state(), 2);
    Check.due("value", Check.value(x), 6);
    return x;
  }

  private static void kindsOfCells() {
    TagFlow x = mixed();
    long[] due = {1, 1, 4, 4, 4, 0};
    for (int i = 0; i < 6; i++) {
      Check.due("kind of cell " + i, Check.cell(x, i, 0), due[i]);
    }
  }

  private static void numbersOfCells() {
    TagFlow x = mixed();
    long[] due = {-9, 0, 1, 2, 3, 0};
    for (int i = 0; i < 6; i++) {
      Check.due("number of cell " + i, Check.cell(x, i, 1), due[i]);
    }
    TagFlow y = Check.program("x(n)=tab z[i<1] of n;");
    for (long n : new long[] {Long.MIN_VALUE, Long.MAX_VALUE, -1, 1L << 32}) {
      Check.start(y, 0, n);
      Check.fire(y, 2000, 0);
      Check.due("kind", Check.cell(y, 0, 0), 1);
      Check.due("number", Check.cell(y, 0, 1), n);
    }
  }

  private static void noSuchCell() {
    for (int n = 0; n <= 20; n++) {
      TagFlow x = Check.program("x(n)=tab z[i<n] of 7;");
      Check.start(x, 0, n);
      Check.fire(x, 2000, 0);
      for (int what = 0; what < 2; what++) {
        for (int i = -1; i <= 21; i++) {
          long due = i < 0 || i >= n ? NO : what == 0 ? 1 : 7;
          Check.due("cell " + i + " of " + n, Check.cell(x, i, what), due);
        }
        for (int i : FAR) {
          Check.due("cell " + i + " of " + n, Check.cell(x, i, what), NO);
        }
      }
    }
    String[] texts = {"f()=1+1;", "t()=1=1;", "f()=1/0;", "x()=tab z[i<21] of 1;",
      "f()=(tab z[i<1] of z[0])[0];", "x()=x();"};
    for (String text : texts) {
      TagFlow x = Check.program(text);
      for (int step = 0; step < 3; step++) {
        Check.due("cell of " + text, Check.cell(x, 0, 0), NO);
        Check.due("cell of " + text, Check.cell(x, 0, 1), NO);
        if (step == 0) {
          Check.start(x, 0);
        } else {
          Check.fire(x, 2000, 0);
        }
      }
    }
  }

  private static void anotherWhatOfCell() {
    TagFlow x = mixed();
    for (int i = 0; i < 6; i++) {
      Check.due("what 2", Check.cell(x, i, 2), NO);
      Check.due("what 4", Check.cell(x, i, 4), NO);
      for (int what : FAR) {
        Check.due("what " + what, Check.cell(x, i, what), NO);
      }
    }
  }

  // Promise 11.

  private static void count() {
    Check.sentence("What 0: EVENTS of the RUN (0 without one)", CallBoundaryTest::eventsOfRun);
    Check.sentence("1: EVENTS in all", CallBoundaryTest::eventsInAll);
    Check.sentence("2: FUNCTIONS of the PROGRAM", CallBoundaryTest::functionsOfProgram);
    Check.sentence("3: RUNS begun", CallBoundaryTest::runsBegun);
    Check.sentence("3: RUNS begun. NONE for another what.", CallBoundaryTest::anotherWhatOfCount);
  }

  private static void eventsOfRun() {
    TagFlow x = new TagFlow();
    Check.due("a new object", x.count(0), 0);
    Check.compile(x, "f()=1+1+1;");
    Check.due("no RUN", x.count(0), 0);
    Check.start(x, 0);
    Check.due("begun", x.count(0), 0);
    Check.fire(x, 1, 0);
    Check.due("under way", x.count(0), 1);
    Check.fire(x, 2000, 0);
    Check.due("ended", x.count(0), 2);
    Check.fire(x, 2000, 0);
    Check.due("refused", x.count(0), 2);
    Check.start(x, 0);
    Check.due("another one", x.count(0), 0);
    Check.fire(x, 1, 0);
    Check.compile(x, "f()=1;");
    Check.due("none again", x.count(0), 0);
  }

  private static void eventsInAll() {
    TagFlow x = new TagFlow();
    Check.due("a new object", x.count(1), 0);
    Check.compile(x, "f()=1+1+1;e()=e();");
    Check.start(x, 0);
    Check.fire(x, 1, 0);
    Check.start(x, 0);
    Check.due("start", x.count(1), 1);
    Check.fire(x, 2000, 0);
    Check.due("two RUNS", x.count(1), 3);
    Check.start(x, 1);
    Check.fire(x, 2000, 0);
    Check.due("TOO LONG", x.count(1), 1003);
    Check.compile(x, "f()=1;");
    Check.due("compile", x.count(1), 1003);
  }

  private static void functionsOfProgram() {
    TagFlow x = new TagFlow();
    Check.due("a new object", x.count(2), 0);
    Check.compile(x, "f()=m;g()=1;");
    Check.due("no PROGRAM", x.count(2), 0);
    Check.compile(x, "f()=1;g()=1;");
    Check.due("two", x.count(2), 2);
    Check.compile(x, "f()=1;g()=1;h()=");
    Check.due("a FAULT", x.count(2), 2);
    Check.compile(x, "f()=1;");
    Check.due("one", x.count(2), 1);
  }

  private static void runsBegun() {
    TagFlow x = new TagFlow();
    Check.due("a new object", x.count(3), 0);
    Check.start(x, 0);
    Check.due("refused", x.count(3), 0);
    Check.compile(x, "f()=1;g()=1+1;h(s)=1;");
    for (int i = 1; i <= 100; i++) {
      Check.start(x, i % 2);
      Check.start(x, 2);
      Check.start(x, 3);
      Check.due("begun", x.count(3), i);
      if (i == 50) {
        Check.compile(x, "f()=1;g()=1+1;h(x)=1;");
        Check.due("compiled", x.count(3), i);
      }
    }
  }

  private static void anotherWhatOfCount() {
    TagFlow x = new TagFlow();
    for (int i = 0; i < 3; i++) {
      Check.due("count(4)", x.count(4), TagFlow.NONE);
      Check.due("count(5)", x.count(5), TagFlow.NONE);
      for (int what : FAR) {
        Check.due("count " + what, x.count(what), TagFlow.NONE);
      }
      if (i == 0) {
        Check.compile(x, "f()=1+1;");
      } else {
        Check.start(x, 0);
      }
    }
  }
}
