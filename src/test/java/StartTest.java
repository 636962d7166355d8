/** Promise 5: start. */
public final class StartTest {
  public static void main(String[] args) {
    which();
    parameters();
    inPlaceOfARun();
    refused();
    Check.end();
  }

  private static void which() {
    TagFlow x = Check.program("f()=1;g()=2;h()=3;");
    for (int n = 0; n < 3; n++) {
      Check.due("start " + n, Check.start(x, n) ? 1 : 0, 1);
      Check.due("value " + n, Check.value(x), n + 1);
    }
    int[] wrong = {-1, 3, 8, Integer.MIN_VALUE, Integer.MAX_VALUE};
    for (int n : wrong) {
      Check.due("start " + n, Check.start(x, n) ? 1 : 0, 0);
    }
    Check.due("the latest RUN is there still", Check.value(x), 3);
    Check.due("RUNS", x.count(3), 3);
  }

  private static void parameters() {
    Check.run("f(a,b,c,d)=a*1000+b*100+c*10+d;", 6, 2, 1, 1234, 1, 2, 3, 4);
    Check.run("f(a,b)=a-b;", 1, 2, 1, 3, 5, 2, 7, 7);
    Check.run("f()=7;", 0, 2, 1, 7, 1, 2, 3, 4);
    Check.run("f(n)=n;", 0, 2, 1, Long.MIN_VALUE, Long.MIN_VALUE);
  }

  private static void inPlaceOfARun() {
    TagFlow x = Check.program("f(n)=n+n+n;");
    Check.start(x, 0, 1);
    Check.fire(x, 1, 0);
    Check.due("start", Check.start(x, 0, 5) ? 1 : 0, 1);
    Check.due("EVENTS", x.count(0), 0);
    Check.due("EVENTS in all", x.count(1), 1);
    Check.due("state", x.state(), 1);
    Check.due("fire", Check.fire(x, 2000, 0), 2);
    Check.due("value", Check.value(x), 15);
  }

  private static void refused() {
    TagFlow x = Check.program("f(n)=n+n;g(s)=1;h(x)=1;k(a,b,c,s)=1;");
    Check.start(x, 0, 4);
    Check.fire(x, 1, 0);
    for (int n = 1; n < 4; n++) {
      Check.due("start " + n, Check.start(x, n, 1, 1, 1, 1) ? 1 : 0, 0);
    }
    Check.due("value", Check.value(x), 8);
    Check.due("EVENTS", x.count(0), 1);
    Check.due("RUNS", x.count(3), 1);
    TagFlow none = new TagFlow();
    Check.compile(none, "f(n)=m;");
    Check.due("start without a PROGRAM", Check.start(none, 0, 1) ? 1 : 0, 0);
    Check.due("RUNS", none.count(3), 0);
  }
}
