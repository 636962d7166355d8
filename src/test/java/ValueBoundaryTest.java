/** The boundary cases of VALUES, and of how a RUN ends. */
public final class ValueBoundaryTest {
  private static final long NO = Check.NO_SUCH_ELEMENT;
  private static final long MIN = Long.MIN_VALUE;
  private static final long MAX = Long.MAX_VALUE;
  private static final String NEVER = "never()=(tab z[i<1] of z[0])[0];";
  /** An operand that is ERROR 1, 2, 3, and the EVENTS of it. */
  private static final String[] ERROR = {
    "", "(1/0)", "(tab z[i<0] of 1)[0]", "(tab z[i<21] of 1)[0]",
  };
  private static final int[] EVENTS = {0, 1, 2, 2};

  public static void main(String[] args) {
    Check.sentence("a table of n cells, cell i (0 .. n - 1) X", ValueBoundaryTest::cells);
    Check.sentence("numbers (wrapping)", ValueBoundaryTest::wrapping);
    Check.sentence("ERRORS: 1 divided by 0 (also the rest)", ValueBoundaryTest::dividedByZero);
    Check.sentence("2 no such cell", ValueBoundaryTest::noSuchCell);
    Check.sentence("3 a table of less than 0 or more than 20 cells", ValueBoundaryTest::noSuchTable);
    Check.sentence(
        "An operator of ERRORS gives the least one of its operands", ValueBoundaryTest::leastError);
    Check.sentence("[ ] of a cell that is one gives that", ValueBoundaryTest::errorOfCell);
    Check.sentence(
        "An if, a round, a table whose condition or size is an ERROR is that ERROR (nothing more is "
            + "entered)",
        ValueBoundaryTest::errorOfCondition);
    Check.sentence(
        "(/ towards 0, the rest with the sign of what is divided;", ValueBoundaryTest::division);
    Check.sentence("the least number by -1 wraps", ValueBoundaryTest::leastByMinusOne);
    Check.sentence("A cell may be an ERROR.", ValueBoundaryTest::errorInCell);
    Check.sentence(
        "A RUN has ended when no EVENT can happen any more: with the value of its FUNCTION",
        ValueBoundaryTest::ended);
    Check.sentence("(also an ERROR, also if other parts never come)", ValueBoundaryTest::endedAnyhow);
    Check.sentence("or (DEADLOCK) without one", ValueBoundaryTest::deadlock);
    Check.sentence(
        "One of which more than 1000 EVENTS could happen is TOO LONG instead",
        ValueBoundaryTest::tooLong);
    Check.sentence("as soon as 1000 have", ValueBoundaryTest::asSoon);
    Check.end();
  }

  private static void cells() {
    for (int n = 1; n <= 20; n++) {
      TagFlow x = Check.program("x(n)=tab z[i<n] of i*i-1;");
      Check.start(x, 0, n);
      Check.due("fire", Check.fire(x, 2000, n), 1 + 3 * n);
      for (int i = 0; i < n; i++) {
        Check.due("kind of cell " + i + " of " + n, Check.cell(x, i, 0), 1);
        Check.due("cell " + i + " of " + n, Check.cell(x, i, 1), (long) i * i - 1);
      }
      Check.due("cell behind the last", Check.cell(x, n, 0), NO);
      Check.run("f(n)=(tab z[i<n] of i+7)[0];", 2 + 2 * n, 2, 1, 7, n);
      Check.run("f(n)=(tab z[i<n] of i+7)[n-1];", 3 + 2 * n, 2, 1, n + 6, n);
      Check.run("f(n)=(tab z[i<n] of i+7)[n];", 2 + 2 * n, 2, 4, 2, n);
    }
  }

  private static void wrapping() {
    Check.run("f(a,b)=a+b;", 1, 2, 1, MIN, MAX, 1);
    Check.run("f(a,b)=a+b;", 1, 2, 1, 0, MIN, MIN);
    Check.run("f(a,b)=a+b;", 1, 2, 1, -1, MIN, MAX);
    Check.run("f(a,b)=a-b;", 1, 2, 1, MAX, MIN, 1);
    Check.run("f(a,b)=a-b;", 1, 2, 1, MIN, MAX, -1);
    Check.run("f(a,b)=a*b;", 1, 2, 1, -2, MAX, 2);
    Check.run("f(a,b)=a*b;", 1, 2, 1, 0, MIN, 2);
    Check.run("f(a,b)=a*b;", 1, 2, 1, MIN, MIN, -1);
    Check.run("f(a,b)=a*b;", 1, 2, 1, 1, MAX, MAX);
    Check.run("f(a)=-a;", 1, 2, 1, MIN, MIN);
    Check.run("f(a)=-a;", 1, 2, 1, -MAX, MAX);
    Check.run("f()=9999999999*9999999999;", 1, 2, 1, 9999999999L * 9999999999L);
    Check.run("t(a,b)=a<b;", 1, 2, 2, 1, MIN, MAX);
    Check.run("t(a,b)=a<b;", 1, 2, 2, 0, MAX, MIN);
    Check.run("t(a,b)=a<b;", 1, 2, 2, 0, MAX, MAX);
    Check.run("t(a,b)=a<b;", 1, 2, 2, 1, -1, 0);
    Check.run("t(a,b)=a=b;", 1, 2, 2, 0, 1L << 32, 0);
    Check.run("t(a,b)=a=b;", 1, 2, 2, 1, MIN, MIN);
  }

  private static void dividedByZero() {
    for (long a : new long[] {0, 1, -1, MIN, MAX}) {
      Check.run("f(a,b)=a/b;", 1, 2, 4, 1, a, 0);
      Check.run("f(a,b)=a%b;", 1, 2, 4, 1, a, 0);
    }
    Check.run("f(a,b)=a/b;", 1, 2, 1, 0, 0, 5);
    Check.run("f(a,b)=a%b;", 1, 2, 1, 0, 0, 5);
    Check.run("f(a,b)=a/b;", 1, 2, 4, 1, 1, 0);
    Check.run("f(a,b)=a/b;", 1, 2, 1, 0, 1, 1L << 32);
    Check.run("f(a,b)=a%b;", 1, 2, 1, 1, 1, 1L << 32);
  }

  private static void noSuchCell() {
    long[] none = {-1, 3, 4, 20, 32, MIN, MAX, 1L << 32, (1L << 32) + 1, -(1L << 32)};
    for (long n : none) {
      Check.run("f(n)=(tab z[i<3] of i)[n];", 5, 2, 4, 2, n);
    }
    for (long n = 0; n < 3; n++) {
      Check.run("f(n)=(tab z[i<3] of i+5)[n];", 8, 2, 1, n + 5, n);
    }
    Check.run("f(n)=(tab z[i<20] of i+5)[n];", 42, 2, 1, 24, 19);
    Check.run("f(n)=(tab z[i<20] of i+5)[n];", 42, 2, 4, 2, 20);
    Check.run("f(n)=(tab z[i<0] of i)[n];", 2, 2, 4, 2, 0);
    Check.run("f(n)=(tab z[i<1] of z[i-1])[n];", 5, 2, 4, 2, 0);
  }

  private static void noSuchTable() {
    for (long n : new long[] {-1, -2, 21, 22, 32, 52, MIN, MAX, 1L << 32, (1L << 32) + 5, -(1L << 32)}) {
      Check.run("x(n)=tab z[i<n] of i;", 1, 2, 4, 3, n);
      Check.run("f(n)=(tab z[i<n] of i)[0];", 2, 2, 4, 3, n);
    }
    Check.run("x(n)=tab z[i<n] of i;", 1, 2, 3, 0, 0);
    Check.run("x(n)=tab z[i<n] of i;", 2, 2, 3, 1, 1);
    Check.run("x(n)=tab z[i<n] of i;", 20, 2, 3, 19, 19);
    Check.run("x(n)=tab z[i<n] of i;", 21, 2, 3, 20, 20);
  }

  private static void leastError() {
    for (int a = 1; a <= 3; a++) {
      for (String sign : new String[] {"+", "-", "*", "/", "%"}) {
        Check.run("f()=" + ERROR[a] + sign + "7;", EVENTS[a] + 1, 2, 4, a);
        Check.run("f()=7" + sign + ERROR[a] + ";", EVENTS[a] + 1, 2, 4, a);
        Check.run("f()=" + ERROR[a] + sign + "0;", EVENTS[a] + 1, 2, 4, a);
      }
      Check.run("f()=-" + ERROR[a] + ";", EVENTS[a] + 1, 2, 4, a);
      Check.run("t()=!(" + ERROR[a] + "=1);", EVENTS[a] + 2, 2, 4, a);
      Check.run("t()=true|1<" + ERROR[a] + ";", EVENTS[a] + 2, 2, 4, a);
      Check.run("t()=" + ERROR[a] + "=1&false;", EVENTS[a] + 2, 2, 4, a);
      Check.run("f()=(tab y[k<1] of 1)[" + ERROR[a] + "];", EVENTS[a] + 3, 2, 4, a);
      Check.run("f()=(tab y[k<" + ERROR[a] + "] of 1)[0];", EVENTS[a] + 2, 2, 4, a);
      Check.run("f()=(tab y[k<" + ERROR[a] + "] of 1)[-1];", EVENTS[a] + 3, 2, 4, a);
      for (int b = 1; b <= 3; b++) {
        leastOfTwo(a, b);
      }
    }
  }

  private static void leastOfTwo(int a, int b) {
    int least = Math.min(a, b);
    int events = EVENTS[a] + EVENTS[b];
    for (String sign : new String[] {"+", "-", "*", "/", "%"}) {
      Check.run("f()=" + ERROR[a] + sign + ERROR[b] + ";", events + 1, 2, 4, least);
    }
    for (String sign : new String[] {"=", "<"}) {
      Check.run("t()=" + ERROR[a] + sign + ERROR[b] + ";", events + 1, 2, 4, least);
    }
    for (String sign : new String[] {"|", "&"}) {
      String text = "t()=" + ERROR[a] + "=1" + sign + "1=" + ERROR[b] + ";";
      Check.run(text, events + 3, 2, 4, least);
    }
    String text = "f()=(tab y[k<" + ERROR[a] + "] of 1)[" + ERROR[b] + "];";
    Check.run(text, events + 2, 2, 4, least);
  }

  private static void errorOfCell() {
    for (int a = 1; a <= 3; a++) {
      String text = "f()=(tab y[k<1] of " + ERROR[a] + ")[0];";
      Check.run(text, EVENTS[a] + 3, 2, 4, a);
      Check.run("f()=(tab y[k<2] of if k=0 then " + ERROR[a] + " else y[0])[1];",
          1 + 2 + 4 + EVENTS[a] + 1 + 1, 2, 4, a);
      Check.run("f()=(tab y[k<2] of if k=0 then " + ERROR[a] + " else 5)[1];",
          1 + 2 + 4 + EVENTS[a] + 1, 2, 1, 5);
    }
  }

  private static void errorOfCondition() {
    for (int a = 1; a <= 3; a++) {
      String e = ERROR[a];
      Check.run("f()=if " + e + "=1 then 1+1 else 2+2;", EVENTS[a] + 2, 2, 4, a);
      Check.run("t()=if " + e + "=1 then true else 1=never();" + NEVER, EVENTS[a] + 2, 2, 4, a);
      Check.run("f()=loop b=1 while " + e + "=b next b=2+2 give 3+3;", EVENTS[a] + 2, 2, 4, a);
      Check.run("x()=tab y[k<" + e + "] of 1+1;", EVENTS[a] + 1, 2, 4, a);
    }
    Check.run("f()=loop a=1 while 1/a=1 next a=a-1 give 7;", 7, 2, 4, 1);
    Check.run("f()=loop a=1/0 while a<1 next a=1 give 7;", 3, 2, 4, 1);
    Check.run("x()=if 1/0=1 then tab z[i<1] of 1 else tab z[i<2] of 2;", 3, 2, 4, 1);
    Check.run("f()=loop v=tab z[i<21] of 1 while true&v[0]=1 next v=v give 5+5;", 5, 2, 4, 3);
  }

  private static void division() {
    long[][] due = {{7, 2, 3, 1}, {-7, 2, -3, -1}, {7, -2, -3, 1}, {-7, -2, 3, -1}, {1, 2, 0, 1},
      {-1, 2, 0, -1}, {6, -3, -2, 0}, {-6, 3, -2, 0}, {MAX, MIN, 0, MAX}, {MIN, MAX, -1, -1},
      {MIN, MIN, 1, 0}, {MAX, -1, -MAX, 0}, {MIN, 1, MIN, 0}, {MIN, 2, MIN / 2, 0}};
    for (long[] d : due) {
      Check.run("f(a,b)=a/b;", 1, 2, 1, d[2], d[0], d[1]);
      Check.run("f(a,b)=a%b;", 1, 2, 1, d[3], d[0], d[1]);
    }
  }

  private static void leastByMinusOne() {
    Check.run("f(a,b)=a/b;", 1, 2, 1, MIN, MIN, -1);
    Check.run("f(a,b)=a%b;", 1, 2, 1, 0, MIN, -1);
    Check.run("f(a)=a/-1;", 2, 2, 1, MIN, MIN);
  }

  private static void errorInCell() {
    TagFlow x = Check.program("x(n)=tab z[i<n] of if i<3 then (tab y[j<20+i] of 1/i)[i*11] else z[9-i];");
    Check.start(x, 0, 5);
    Check.fire(x, 2000, 2);
    // Cells 0 to 2: the cell 1/0; cell 11 of 21, which is no table; of 22. Cells 3, 4: none so, none.
    long[][] due = {{4, 1}, {4, 3}, {4, 3}, {4, 2}, {4, 2}};
    Check.due("kind", x.kind(), 3);
    Check.due("value", Check.value(x), 5);
    for (int i = 0; i < 5; i++) {
      Check.due("kind of cell " + i, Check.cell(x, i, 0), due[i][0]);
      Check.due("ERROR of cell " + i, Check.cell(x, i, 1), due[i][1]);
    }
  }

  private static void ended() {
    Check.steps("f()=let a=1+1+1 in 5;", 2, 2, 1, 5);
    Check.steps("x()=tab z[i<3] of 1+1;", 7, 2, 3, 3);
    Check.steps("f(n)=n;", 0, 2, 1, 5, 5);
    Check.steps("t()=true;", 0, 2, 2, 1);
    Check.steps("f()=g();g()=let a=1+2 in let b=3+4 in 5;", 3, 2, 1, 5);
  }

  private static void endedAnyhow() {
    Check.steps("f()=1/0;", 1, 2, 4, 1);
    Check.steps("f()=let a=1/0 in 5;", 1, 2, 1, 5);
    Check.steps("f()=let a=never() in 5;" + NEVER, 3, 2, 1, 5);
    Check.steps("f()=let a=never() in 1/0;" + NEVER, 4, 2, 4, 1);
    Check.steps("x()=tab z[i<2] of z[i];", 3, 2, 3, 2);
    Check.steps("f()=if true then 1 else 1/0;", 1, 2, 1, 1);
  }

  private static void deadlock() {
    Check.steps("f()=never();" + NEVER, 3, 3, 0, NO);
    Check.steps("f()=(tab z[i<1] of z[0])[0];", 2, 3, 0, NO);
    Check.steps("f()=(tab z[i<2] of z[1-i])[0]+1/0;", 6, 3, 0, NO);
    Check.steps("f()=(tab z[i<20] of z[19-i])[0];", 41, 3, 0, NO);
    TagFlow x = Check.program("f()=never()+1;" + NEVER);
    Check.start(x, 0);
    Check.fire(x, 2000, 1);
    Check.due("fire behind a DEADLOCK", Check.fire(x, 1, 1), Check.ILLEGAL_STATE);
    Check.due("cell of a DEADLOCK", Check.cell(x, 0, 0), NO);
    Check.due("start behind a DEADLOCK", Check.start(x, 1), true);
    Check.due("state", x.state(), 1);
  }

  /** 25 n + 5 EVENTS, many of which can happen at a time, and one for each - more. */
  private static String broad(int minuses, String more) {
    return "f(n)=loop k=0,w=v(1) while k<n next k=k+1,w=v(20) give " + "-".repeat(minuses) + "k" + more
        + ";v(m)=tab z[i<m] of i;" + NEVER;
  }

  private static void tooLong() {
    String loop = "f(n)=loop k=0 while k<n next k=k+1 give ";
    Check.run(loop + "k;", 998, 2, 1, 332, 332);
    Check.run(loop + "-k;", 999, 2, 1, -332, 332);
    Check.run(loop + "--k;", 1000, 2, 1, 332, 332);
    Check.run(loop + "---k;", 1000, 4, 0, NO, 332);
    Check.run(loop + "----k;", 1000, 4, 0, NO, 332);
    Check.run(loop + "--(k/0);", 1000, 4, 0, NO, 332);
    Check.run(loop + "-(k/0);", 1000, 2, 4, 1, 332);
    Check.run(loop + "k;", 1000, 4, 0, NO, 333);
    Check.run(broad(19, ""), 999, 2, 1, -39, 39);
    Check.run(broad(20, ""), 1000, 2, 1, 39, 39);
    Check.run(broad(21, ""), 1000, 4, 0, NO, 39);
    Check.run(broad(0, ""), 1000, 4, 0, NO, 40);
    Check.run(broad(16, "+never()"), 999, 3, 0, NO, 39);
    Check.run(broad(17, "+never()"), 1000, 3, 0, NO, 39);
    Check.run(broad(18, "+never()"), 1000, 4, 0, NO, 39);
    Check.run("f()=let a=f() in 5;", 1000, 4, 0, NO);
    Check.run("f()=f()+f()+f()+f()+f()+f()+f()+f()+f()+f();", 1000, 4, 0, NO);
    Check.run("x()=tab z[i<20] of y()[0];y()=tab w[j<20] of x()[0];", 1000, 4, 0, NO);
  }

  private static void asSoon() {
    for (int minuses = 20; minuses <= 21; minuses++) {
      TagFlow x = Check.program(broad(minuses, ""));
      Check.start(x, 0, 39);
      Check.due("fire(998)", Check.fire(x, 998, 7), 998);
      Check.due("state", x.state(), 1);
      Check.due("fire(1)", Check.fire(x, 1, 7), 999);
      Check.due("state", x.state(), 1);
      Check.due("kind", x.kind(), 0);
      Check.due("fire(1)", Check.fire(x, 1, 7), 1000);
      Check.due("state", x.state(), minuses == 20 ? 2 : 4);
      Check.due("kind", x.kind(), minuses == 20 ? 1 : 0);
      Check.due("value", Check.value(x), minuses == 20 ? 39 : NO);
      Check.due("fire(1)", Check.fire(x, 1, 7), Check.ILLEGAL_STATE);
      Check.due("EVENTS", x.count(0), 1000);
      Check.due("EVENTS in all", x.count(1), 1000);
    }
  }
}
