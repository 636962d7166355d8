/** Promises 6, 7 and 11: fire, state and count, with the limits of EVENTS. */
public final class FireTest {
  private static final String ENDLESS = "f(n)=f(n);";

  public static void main(String[] args) {
    steps();
    wrongCalls();
    tooLong();
    justNotTooLong();
    allEvents();
    counts();
    Check.end();
  }

  private static void steps() {
    TagFlow x = Check.program("f(n)=n+1+2+3;");
    Check.start(x, 0, 10);
    Check.due("state", x.state(), 1);
    Check.due("fire(1)", Check.fire(x, 1, Long.MIN_VALUE), 1);
    Check.due("state", x.state(), 1);
    Check.due("kind", x.kind(), 0);
    Check.due("value", Check.value(x), Check.NO_SUCH_ELEMENT);
    Check.due("fire(2)", Check.fire(x, 2, Long.MAX_VALUE), 3);
    Check.due("state", x.state(), 2);
    Check.due("fire behind the end", Check.fire(x, 1, 0), Check.ILLEGAL_STATE);
    Check.due("value", Check.value(x), 16);
  }

  private static void wrongCalls() {
    TagFlow x = Check.program("f(n)=n+1;");
    int[] wrong = {0, -1, 2001, Integer.MIN_VALUE, Integer.MAX_VALUE};
    for (int n : wrong) {
      Check.due("no RUN is asked first, n " + n, Check.fire(x, n, 0), Check.ILLEGAL_STATE);
    }
    Check.start(x, 0, 1);
    for (int n : wrong) {
      Check.due("fire of n " + n, Check.fire(x, n, 0), Check.ILLEGAL_ARGUMENT);
    }
    Check.due("EVENTS", x.count(0), 0);
    Check.due("fire(2000)", Check.fire(x, 2000, 0), 1);
  }

  private static void tooLong() {
    TagFlow x = Check.program(ENDLESS);
    Check.start(x, 0, 1);
    Check.due("fire(999)", Check.fire(x, 999, 1), 999);
    Check.due("state", x.state(), 1);
    Check.due("fire(2000)", Check.fire(x, 2000, 1), 1000);
    Check.due("state", x.state(), 4);
    Check.due("kind", x.kind(), 0);
    Check.due("value", Check.value(x), Check.NO_SUCH_ELEMENT);
    Check.due("cell", Check.cell(x, 0, 0), Check.NO_SUCH_ELEMENT);
    Check.due("fire", Check.fire(x, 1, 1), Check.ILLEGAL_STATE);
    Check.run("f(n)=let a=f(n) in 5;", 1000, 4, 0, Check.NO_SUCH_ELEMENT, 1);
    Check.run("f(n)=f(n)+f(n)+f(n)+f(n)+f(n);", 1000, 4, 0, Check.NO_SUCH_ELEMENT, 1);
    Check.run("f(n)=loop k=0 while true next k=k give 1;", 1000, 4, 0, Check.NO_SUCH_ELEMENT, 1);
    Check.run("f(n)=(tab z[i<20] of f(n))[0];", 1000, 4, 0, Check.NO_SUCH_ELEMENT, 1);
  }

  /** A loop of n rounds has 3 n + 2 EVENTS; with a few more a RUN has 1000 of them, or 1001. */
  private static void justNotTooLong() {
    String loop = "f(n)=loop k=0 while k<n next k=k+1 give k";
    Check.run(loop + ";", 998, 2, 1, 332, 332);
    Check.run(loop + "+1;", 999, 2, 1, 333, 332);
    Check.run(loop + "+1+1;", 1000, 2, 1, 334, 332);
    Check.run(loop + "+1+1+1;", 1000, 4, 0, Check.NO_SUCH_ELEMENT, 332);
    String never = "never(n)=(tab z[i<1] of z[0])[0];";
    Check.run(loop + "+never(1);" + never, 998, 3, 0, Check.NO_SUCH_ELEMENT, 331);
    Check.run(loop + "+never(-1);" + never, 999, 3, 0, Check.NO_SUCH_ELEMENT, 331);
    Check.run(loop + "+never(--1);" + never, 1000, 3, 0, Check.NO_SUCH_ELEMENT, 331);
    Check.run(loop + "+never(---1);" + never, 1000, 4, 0, Check.NO_SUCH_ELEMENT, 331);
  }

  private static void allEvents() {
    TagFlow x = Check.program(ENDLESS);
    for (int i = 0; i < 4; i++) {
      Check.start(x, 0, 1);
      Check.due("fire", Check.fire(x, 2000, i), 1000);
    }
    Check.due("compile", Check.compile(x, ENDLESS + "g(n)=1+2+3;"), 2);
    Check.start(x, 0, 1);
    Check.due("fire", Check.fire(x, 990, 1), 990);
    Check.start(x, 0, 1);
    Check.due("10 are left", Check.fire(x, 2000, 1), 10);
    Check.due("state", x.state(), 1);
    Check.due("wrong n is asked first", Check.fire(x, 0, 1), Check.ILLEGAL_ARGUMENT);
    Check.due("none is left", Check.fire(x, 1, 1), Check.ARITHMETIC);
    Check.due("EVENTS", x.count(0), 10);
    Check.due("EVENTS in all", x.count(1), 5000);
    Check.due("start", Check.start(x, 1, 1) ? 1 : 0, 1);
    Check.due("state", x.state(), 1);
    Check.due("none is left", Check.fire(x, 1, 1), Check.ARITHMETIC);
    Check.due("compile", Check.compile(x, "f(n)=n;"), 1);
    Check.due("no RUN is asked first", Check.fire(x, 1, 1), Check.ILLEGAL_STATE);
    Check.due("start", Check.start(x, 0, 6) ? 1 : 0, 1);
    Check.due("a RUN without EVENTS", Check.value(x), 6);
    Check.due("RUNS", x.count(3), 8);
  }

  private static void counts() {
    TagFlow x = Check.program("f(n)=n+1;g(n)=n*2+1;");
    Check.start(x, 0, 1);
    Check.fire(x, 9, 0);
    Check.start(x, 1, 1);
    Check.fire(x, 1, 0);
    Check.due("EVENTS of the RUN", x.count(0), 1);
    Check.due("EVENTS in all", x.count(1), 2);
    Check.due("FUNCTIONS", x.count(2), 2);
    Check.due("RUNS", x.count(3), 2);
    int[] wrong = {-1, 4, Integer.MIN_VALUE, Integer.MAX_VALUE};
    for (int what : wrong) {
      Check.due("count " + what, x.count(what), TagFlow.NONE);
    }
  }
}
