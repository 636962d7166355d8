/** Promise 3: compile, and promise 11 as far as a PROGRAM goes. */
public final class CompileTest {
  public static void main(String[] args) {
    functions();
    tapeIsEmptied();
    faultChangesNothing();
    programEndsRun();
    tokens();
    Check.end();
  }

  private static void functions() {
    StringBuilder text = new StringBuilder();
    for (int i = 1; i <= 8; i++) {
      text.append("f").append(i).append("()=").append(i).append(";");
      TagFlow x = new TagFlow();
      Check.due("compile of " + text, Check.compile(x, text.toString()), i);
      Check.due("count(2) of " + text, x.count(2), i);
      Check.start(x, i - 1);
      Check.due("value of the last of " + text, Check.value(x), i);
    }
    TagFlow x = new TagFlow();
    Check.due("a ninth one", Check.compile(x, text + "g()=9;"), Check.ILLEGAL_ARGUMENT);
    Check.due("count(2)", x.count(2), 0);
  }

  private static void tapeIsEmptied() {
    TagFlow x = new TagFlow();
    Check.due("compile", Check.compile(x, "f()=1;"), 1);
    Check.due("compile again", Check.compile(x), Check.ILLEGAL_ARGUMENT);
    Check.due("of an empty tape", x.fault(1), 0);
    Check.due("with a FAULT", Check.compile(x, "f()=?;"), Check.ILLEGAL_ARGUMENT);
    Check.due("it is gone", Check.compile(x, "f()=1;g()=2;"), 2);
  }

  private static void faultChangesNothing() {
    TagFlow x = Check.program("f(n)=n+1;g(n)=n*2;");
    Check.start(x, 1, 21);
    Check.due("with a FAULT", Check.compile(x, "f(a)=b;"), Check.ILLEGAL_ARGUMENT);
    Check.due("functions", x.count(2), 2);
    Check.due("state", x.state(), 1);
    Check.due("fire", Check.fire(x, 5, 0), 1);
    Check.due("value", Check.value(x), 42);
    Check.due("with a FAULT", Check.compile(x, "f(a)="), Check.ILLEGAL_ARGUMENT);
    Check.due("value", Check.value(x), 42);
    Check.due("count", x.count(0), 1);
  }

  private static void programEndsRun() {
    TagFlow x = Check.program("f(n)=n+1;");
    Check.start(x, 0, 1);
    Check.fire(x, 5, 0);
    Check.due("compile", Check.compile(x, "f(n)=n+2;"), 1);
    Check.due("state", x.state(), 0);
    Check.due("kind", x.kind(), 0);
    Check.due("value", Check.value(x), Check.NO_SUCH_ELEMENT);
    Check.due("fire", Check.fire(x, 1, 0), Check.ILLEGAL_STATE);
    Check.due("EVENTS of the RUN", x.count(0), 0);
    Check.due("EVENTS in all", x.count(1), 1);
    Check.due("RUNS", x.count(3), 1);
    Check.start(x, 0, 1);
    Check.fire(x, 5, 0);
    Check.due("the new PROGRAM's value", Check.value(x), 3);
    Check.due("EVENTS in all", x.count(1), 2);
    Check.due("RUNS", x.count(3), 2);
  }

  /** What parts TOKENS, and what does not. */
  private static void tokens() {
    Check.run(" f ( n ) = n ; ", 0, 2, 1, 5, 5);
    Check.run("f(letx)=letx;", 0, 2, 1, 5, 5);
    Check.run("f(in1)=if in1<2then 1else(in1);", 2, 2, 1, 5, 5);
    Check.run("f(abcdef)=abcdef;", 0, 2, 1, 5, 5);
    Check.run("f(a23456)=a23456;", 0, 2, 1, 5, 5);
    Check.run("f()=9999999999;", 0, 2, 1, 9999999999L);
    Check.run("f()=0000000007;", 0, 2, 1, 7);
    Check.run("n(n)=n;", 0, 2, 1, 5, 5);
    Check.fault("f(n)=12ab;", 1, 7);
    Check.fault("f(n)=12 ab;", 1, 8);
    Check.fault("f(n)=12then;", 1, 7);
  }
}
