/** Promises 7 to 10: state, kind, value and cell of a RUN that has ended. */
public final class ResultTest {
  private static final long NO = Check.NO_SUCH_ELEMENT;

  public static void main(String[] args) {
    kinds();
    deadlocks();
    cells();
    cellsOfOthers();
    Check.end();
  }

  private static void kinds() {
    Check.run("f(n)=n;", 0, 2, 1, -3, -3);
    Check.run("s()=true;", 0, 2, 2, 1);
    Check.run("s()=false;", 0, 2, 2, 0);
    Check.run("x()=tab z[i<3] of i;", 4, 2, 3, 3);
    Check.run("x()=tab z[i<0] of i;", 1, 2, 3, 0);
    Check.run("x()=tab z[i<20] of i;", 21, 2, 3, 20);
    Check.run("x()=tab z[i<21] of i;", 1, 2, 4, 3);
    Check.run("x()=tab z[i<-1] of i;", 2, 2, 4, 3);
    Check.run("x(n)=tab z[i<n] of i;", 1, 2, 4, 3, 1L << 32);
    Check.run("f()=1/0;", 1, 2, 4, 1);
    Check.run("s()=1/0<1;", 2, 2, 4, 1);
  }

  private static void deadlocks() {
    Check.run("f()=(tab z[i<1] of z[0])[0];", 2, 3, 0, NO);
    Check.run("f()=(tab z[i<2] of z[1-i])[0]+1;", 5, 3, 0, NO);
    Check.run("x()=tab z[i<2] of z[1-i];", 5, 2, 3, 2);
    Check.run("f()=let v=tab z[i<1] of z[0] in 5;", 2, 2, 1, 5);
    TagFlow x = Check.program("f()=1+1;g()=(tab z[i<1] of z[0])[0];");
    Check.start(x, 0);
    Check.fire(x, 9, 1);
    Check.due("value", Check.value(x), 2);
    Check.start(x, 1);
    Check.fire(x, 9, 1);
    Check.due("a DEADLOCK behind a value", x.state(), 3);
    Check.due("value", Check.value(x), NO);
  }

  private static void cells() {
    TagFlow x = Check.program("x(n)=tab z[i<n] of if i=2 then z[2] else 10/i;");
    Check.start(x, 0, 4);
    Check.due("under way", Check.cell(x, 0, 0), NO);
    Check.due("fire", Check.fire(x, 2000, 5), 16);
    long[][] due = {{4, 1}, {1, 10}, {0, 0}, {1, 3}};
    for (int i = 0; i < 4; i++) {
      Check.due("kind of cell " + i, Check.cell(x, i, 0), due[i][0]);
      Check.due("number of cell " + i, Check.cell(x, i, 1), due[i][1]);
    }
    int[] wrong = {-1, 4, 20, Integer.MIN_VALUE, Integer.MAX_VALUE};
    for (int i : wrong) {
      Check.due("cell " + i, Check.cell(x, i, 0), NO);
      Check.due("number of cell " + i, Check.cell(x, i, 1), NO);
    }
    Check.due("what 2", Check.cell(x, 0, 2), NO);
    Check.due("what -1", Check.cell(x, 0, -1), NO);
    Check.due("what MIN", Check.cell(x, 0, Integer.MIN_VALUE), NO);
  }

  private static void cellsOfOthers() {
    String[] texts = {"f()=5;", "s()=true;", "f()=1/0;", "x()=tab z[i<-1] of i;", "x()=tab z[i<0] of i;"};
    for (String text : texts) {
      TagFlow x = Check.program(text);
      Check.start(x, 0);
      if (x.state() == 1) {
        Check.fire(x, 2000, 1);
      }
      Check.due("cell of " + text, Check.cell(x, 0, 0), NO);
      Check.due("number of a cell of " + text, Check.cell(x, 0, 1), NO);
    }
    TagFlow x = Check.program("x()=tab z[i<2] of -7;");
    Check.start(x, 0);
    Check.fire(x, 2000, 1);
    Check.due("a negative number", Check.cell(x, 1, 1), -7);
    Check.compile(x, "x()=tab z[i<2] of -7;");
    Check.due("no RUN", Check.cell(x, 1, 1), NO);
  }
}
