/** The boundary cases of EVALUATION and of EVENTS: what is entered, and what counts. */
public final class RunBoundaryTest {
  private static final long NO = Check.NO_SUCH_ELEMENT;
  /** Its value never comes: 1 EVENT for the call, 1 for the table, 1 for the cell. */
  private static final String NEVER = "never()=(tab z[i<1] of z[0])[0];";

  public static void main(String[] args) {
    Check.sentence(
        "whatever order a schedule takes them in, the same comes out behind the same number of events",
        RunBoundaryTest::anyOrder);
    Check.sentence(
        "EVALUATION is lenient: all that is entered goes on, each operator as soon as its operands "
            + "are there",
        RunBoundaryTest::lenient);
    Check.sentence(
        "Entered is the X of a FUNCTION when it is started, or a call of it stands in what is entered "
            + "(its parameters are there when the arguments are)",
        RunBoundaryTest::functions);
    Check.sentence("both parts of let", RunBoundaryTest::lets);
    Check.sentence("of if the condition, then the part that it tells", RunBoundaryTest::ifs);
    Check.sentence(
        "of a loop the first values, the condition of each round, and (if it is TRUE) what is behind "
            + "next, else what is behind give",
        RunBoundaryTest::loops);
    Check.sentence("A NAME that next does not bind keeps its value", RunBoundaryTest::kept);
    Check.sentence(
        "the X behind next have the values of the round that was", RunBoundaryTest::roundThatWas);
    Check.sentence(
        "an operator (| & = < + - * / %, - ahead, !, [ ]), when it gives its value, with all its "
            + "operands there",
        RunBoundaryTest::operators);
    Check.sentence(
        "([ ] when the cell is there, too, if there is such a one)", RunBoundaryTest::elements);
    Check.sentence(
        "an if, and a round of a loop, when its condition is there", RunBoundaryTest::conditions);
    Check.sentence(
        "a call, when what it stands in is entered (also within a call's arguments; the one that "
            + "start() begins is none)",
        RunBoundaryTest::calls);
    Check.sentence(
        "a table, when its size is there, and then each of its cells", RunBoundaryTest::tables);
    Check.sentence(
        "(it is entered by that; the table is there as soon as its size is)",
        RunBoundaryTest::thereByItsSize);
    Check.sentence("Those that become an ERROR are one EVENT, too.", RunBoundaryTest::errors);
    Check.end();
  }

  private static void anyOrder() {
    Check.steps("f(n)=if n<2 then n else f(n-1)+f(n-2);", 65, 2, 1, 5, 5);
    Check.steps("x(n)=tab z[i<n] of if i<2 then i else z[i-1]+z[i-2];", 55, 2, 3, 8, 8);
    Check.steps("f()=never()+1*2*3;" + NEVER, 5, 3, 0, NO);
    long[] schedules = {0, 1, -1, 2, Long.MIN_VALUE, Long.MAX_VALUE, 1L << 32, 0x5555555555555555L};
    for (long schedule : schedules) {
      for (int step = 1; step <= 66; step++) {
        TagFlow x = Check.program("f(n)=if n<2 then n else f(n-1)+f(n-2);");
        Check.start(x, 0, 5);
        for (int fired = 0; fired < 65; fired = Math.min(65, fired + step)) {
          Check.due("state behind " + fired, x.state(), 1);
          Check.due("fire", Check.fire(x, step, schedule), Math.min(65, fired + step));
        }
        Check.due("state", x.state(), 2);
        Check.due("value", Check.value(x), 5);
      }
    }
  }

  private static void lenient() {
    Check.run("f()=let a=never() in 5+6;" + NEVER, 4, 2, 1, 11);
    Check.run("f()=never()+(1+2+3);" + NEVER, 5, 3, 0, NO);
    Check.run("f(n)=(n+1)*(n+2)-never();" + NEVER, 6, 3, 0, NO, 5);
    Check.run("t()=false&never()=1;" + NEVER, 3, 3, 0, NO);
    Check.run("t()=true|never()=1;" + NEVER, 3, 3, 0, NO);
    Check.run("f()=0*never();" + NEVER, 3, 3, 0, NO);
    Check.run("f()=1/0+never();" + NEVER, 4, 3, 0, NO);
    Check.steps("f()=let a=1+2+3+4 in 5;", 3, 2, 1, 5);
  }

  private static void functions() {
    Check.run("f(n)=n;", 0, 2, 1, 5, 5);
    Check.run("f()=1+2;g()=g();", 1, 2, 1, 3);
    Check.run("f(n)=g(n+1);g(a)=5+6;", 3, 2, 1, 11, 1);
    Check.run("f()=g(never());g(a)=7;" + NEVER, 4, 2, 1, 7);
    Check.run("f()=g(never(),2);g(a,b)=b*b;" + NEVER, 5, 2, 1, 4);
    Check.run("f()=g(never(),2);g(a,b)=b*b+a;" + NEVER, 5, 3, 0, NO);
    Check.run("f()=g(1,2,3,never());g(a,b,c,d)=if a<b then c else d;" + NEVER, 6, 2, 1, 3);
    Check.run("f()=g(1,2,3,4);g(a,b,c,d)=a*1000+b*100+c*10+d;", 7, 2, 1, 1234);
    Check.run("f(n)=f(n);", 1000, 4, 0, NO, 5);
    Check.run("f(n)=g(f(n));g(n)=7;", 1000, 4, 0, NO, 5);
  }

  private static void lets() {
    Check.run("f()=let a=1+2 in 7;", 1, 2, 1, 7);
    Check.run("f()=let a=1+2 in a;", 1, 2, 1, 3);
    Check.run("f()=let a=1+2 in a+a;", 2, 2, 1, 6);
    Check.run("f(n)=let a=n in a;", 0, 2, 1, 5, 5);
    Check.run("f()=let a=1/0 in 6+6;", 2, 2, 1, 12);
    Check.run("f()=let a=f() in 1;", 1000, 4, 0, NO);
  }

  private static void ifs() {
    Check.run("f(n)=if n<0 then f(n) else 1;", 2, 2, 1, 1, 5);
    Check.run("f(n)=if 0<n then 1 else f(n);", 2, 2, 1, 1, 5);
    Check.run("f()=if true then 1+1 else 2+2+2;", 2, 2, 1, 2);
    Check.run("f()=if false then 1+1 else 2+2+2;", 3, 2, 1, 6);
    Check.run("f()=if never()=1 then 1+1 else 2+2;" + NEVER, 3, 3, 0, NO);
    Check.run("f()=if true then never() else 2;" + NEVER, 4, 3, 0, NO);
    Check.run("f()=if false then never() else 2;" + NEVER, 1, 2, 1, 2);
  }

  private static void loops() {
    Check.run("f()=loop a=1+1 while a<2 next a=5+5+5 give a+1;", 4, 2, 1, 3);
    Check.run("f()=loop a=0 while a<1 next a=a+1 give 1+2+3;", 7, 2, 1, 6);
    Check.run("f()=loop a=0 while s(a) next a=a+1 give a;s(n)=n<2;", 11, 2, 1, 2);
    Check.run("f()=loop a=never(),b=0 while b<0 next a=1 give b;" + NEVER, 5, 2, 1, 0);
    Check.run("f()=loop a=0,b=0 while a<2 next a=a+1,b=never() give a;" + NEVER, 14, 2, 1, 2);
    Check.run("f()=loop a=0,b=0 while a<2 next a=a+1,b=never() give b;" + NEVER, 14, 3, 0, NO);
    Check.run("f()=loop a=1 while true next a=a give f();", 1000, 4, 0, NO);
    Check.run("f()=loop a=1 while false next a=f() give a;", 1, 2, 1, 1);
    Check.run("f()=loop a=1 while true next a=never() give a;" + NEVER, 1000, 4, 0, NO);
  }

  private static void kept() {
    Check.run("f()=loop k=0,m=7 while k<3 next k=k+1 give m;", 11, 2, 1, 7);
    Check.run("f(n)=loop m=n*n,k=0 while k<3 next k=k+1 give m+k;", 13, 2, 1, 28, 5);
    Check.run("f()=loop k=0,m=never() while k<3 next k=k+1 give k;" + NEVER, 14, 2, 1, 3);
    Check.run("f()=loop k=0,m=never() while k<3 next k=k+1 give m;" + NEVER, 14, 3, 0, NO);
    Check.run("f()=loop k=0,s=true,v=x(),m=1/0 while k<1&s next k=k+1 give v[0];x()=tab z[i<1] of 8;",
        2 + 1 + 1 + 4 + 3 + 1, 2, 1, 8);
    Check.run("f()=loop k=0,m=1/0 while k<1 next k=k+1 give m;", 6, 2, 4, 1);
  }

  private static void roundThatWas() {
    Check.run("f()=loop a=1,b=2,k=0 while k<1 next a=b,b=a,k=k+1 give a*10+b;", 7, 2, 1, 21);
    Check.run("f()=loop a=1,b=2,k=0 while k<2 next k=k+1,b=a,a=b give a*10+b;", 10, 2, 1, 12);
    Check.run("f(n)=loop k=0,m=0 while k<n next k=k+1,m=m+k give m;", 4 * 4 + 2, 2, 1, 6, 4);
    Check.run("f(n)=loop k=0,m=0 while k<n next m=m+k,k=k+1 give m;", 4 * 4 + 2, 2, 1, 6, 4);
    String four = "f()=loop a=1,b=2,c=3,d=4 while a<9 next ";
    String digits = " give a*1000+b*100+c*10+d;";
    Check.run(four + "a=a+b,b=c,c=d,d=a" + digits, 3 * 3 + 2 + 6, 2, 1, 10136);
    Check.run(four + "d=a,c=d,b=c,a=a+b" + digits, 3 * 3 + 2 + 6, 2, 1, 10136);
  }

  private static void operators() {
    for (String sign : new String[] {"+", "-", "*", "/", "%"}) {
      Check.steps("f(a,b)=a" + sign + "b;", 1, 2, 1, operate(sign, 17, 5), 17, 5);
      Check.run("f()=1" + sign + "never();" + NEVER, 3, 3, 0, NO);
      Check.run("f()=never()" + sign + "1;" + NEVER, 3, 3, 0, NO);
    }
    for (String sign : new String[] {"=", "<"}) {
      Check.steps("t(a,b)=a" + sign + "b;", 1, 2, 2, 0, 17, 5);
      Check.run("t()=1" + sign + "never();" + NEVER, 3, 3, 0, NO);
      Check.run("t()=never()" + sign + "1;" + NEVER, 3, 3, 0, NO);
    }
    for (String sign : new String[] {"|", "&"}) {
      Check.steps("t()=true" + sign + "true;", 1, 2, 2, 1);
      Check.run("t()=true" + sign + "(1=never());" + NEVER, 3, 3, 0, NO);
      Check.run("t()=(1=never())" + sign + "false;" + NEVER, 3, 3, 0, NO);
    }
    Check.steps("f(n)=-n;", 1, 2, 1, -5, 5);
    Check.steps("t()=!true;", 1, 2, 2, 0);
    Check.run("f()=-never();" + NEVER, 3, 3, 0, NO);
    Check.run("t()=!(1=never());" + NEVER, 3, 3, 0, NO);
    Check.run("f()=(((1)));", 0, 2, 1, 1);
  }

  private static long operate(String sign, long a, long b) {
    switch (sign) {
      case "+": return a + b;
      case "-": return a - b;
      case "*": return a * b;
      case "/": return a / b;
      default: return a % b;
    }
  }

  private static void elements() {
    Check.run("f()=(tab z[i<2] of if i=0 then z[1] else 5)[0];", 1 + 2 + 2 + 2 + 1 + 1, 2, 1, 5);
    Check.run("f()=(tab z[i<1] of z[0])[0];", 2, 3, 0, NO);
    Check.run("f()=(tab z[i<1] of z[0])[1];", 3, 2, 4, 2);
    Check.run("f()=(tab z[i<1] of z[1])[0];", 4, 2, 4, 2);
    Check.run("f()=(tab z[i<2] of z[1-i])[0];", 1 + 2 + 2, 3, 0, NO);
    Check.run("f()=(tab z[i<1] of 4)[never()];" + NEVER, 5, 3, 0, NO);
    Check.run("f()=(tab z[i<1] of 4)[9+never()];" + NEVER, 5, 3, 0, NO);
    Check.run("f()=(tab z[i<never()] of 1)[0];" + NEVER, 3, 3, 0, NO);
    Check.run("f()=(tab z[i<never()] of 1)[1/0];" + NEVER, 4, 3, 0, NO);
    Check.run("f()=(tab z[i<21] of 1)[never()];" + NEVER, 4, 3, 0, NO);
  }

  private static void conditions() {
    Check.steps("f()=if true then 1 else 2;", 1, 2, 1, 1);
    Check.steps("f()=loop a=1 while false next a=1 give 2;", 1, 2, 1, 2);
    Check.steps("f()=loop s=true while s next s=false give 2;", 2, 2, 1, 2);
    Check.run("f()=if 1=never() then 1 else 2;" + NEVER, 3, 3, 0, NO);
    Check.run("f()=loop a=1 while 1=never() next a=2 give 3;" + NEVER, 3, 3, 0, NO);
    Check.run("f()=loop a=1 while a=1 next a=never() give 3;" + NEVER, 1 + 1 + 3, 3, 0, NO);
  }

  private static void calls() {
    Check.run("f()=1;", 0, 2, 1, 1);
    Check.run("f()=g();g()=1;", 1, 2, 1, 1);
    Check.run("f()=g(g(g(1)));g(n)=n;", 3, 2, 1, 1);
    Check.run("f()=g(h());g(n)=1;h()=2;", 2, 2, 1, 1);
    Check.run("f()=g(h(),h(),h(),h());g(a,b,c,d)=a;h()=2;", 5, 2, 1, 2);
    Check.run("f()=if true then 1 else g();g()=1;", 1, 2, 1, 1);
    Check.run("f()=let a=g() in 1;g()=2;", 1, 2, 1, 1);
    Check.run("f()=loop a=1 while false next a=g() give a;g()=2;", 1, 2, 1, 1);
    Check.run("x()=tab z[i<0] of g();g()=2;", 1, 2, 3, 0);
    Check.run("x()=tab z[i<3] of g();g()=2;", 7, 2, 3, 3);
  }

  private static void tables() {
    for (int n = 0; n <= 20; n++) {
      Check.steps("x(n)=tab z[i<n] of 7;", 1 + n, 2, 3, n, n);
      Check.run("x(n)=tab z[i<n] of i+1;", 1 + 2 * n, 2, 3, n, n);
    }
    Check.run("x()=tab z[i<1+1] of 7;", 4, 2, 3, 2);
    Check.run("x()=tab z[i<never()] of 1;" + NEVER, 3, 3, 0, NO);
  }

  private static void thereByItsSize() {
    Check.run("x()=tab z[i<2] of never();" + NEVER, 1 + 2 + 2 * 3, 2, 3, 2);
    Check.run("f()=g(tab z[i<2] of never());g(v)=v[2];" + NEVER, 1 + 3 + 6 + 1, 2, 4, 2);
    Check.run("f()=let v=tab z[i<2] of if i=0 then never() else 4 in v[1];" + NEVER,
        1 + 2 + 2 + 2 + 3 + 1, 2, 1, 4);
    TagFlow x = Check.program("x()=tab z[i<3] of if i=1 then never() else i*i;" + NEVER);
    Check.start(x, 0);
    Check.due("fire", Check.fire(x, 2000, 3), 1 + 3 + 3 + 3 + 2 + 3);
    long[][] due = {{1, 0}, {0, 0}, {1, 4}};
    for (int i = 0; i < 3; i++) {
      Check.due("kind of cell " + i, Check.cell(x, i, 0), due[i][0]);
      Check.due("number of cell " + i, Check.cell(x, i, 1), due[i][1]);
    }
  }

  private static void errors() {
    Check.steps("f()=1/0;", 1, 2, 4, 1);
    Check.steps("f()=1%0;", 1, 2, 4, 1);
    Check.steps("f()=1/0+1;", 2, 2, 4, 1);
    Check.steps("f()=-(1/0);", 2, 2, 4, 1);
    Check.steps("t()=!(1/0=1);", 3, 2, 4, 1);
    Check.steps("t()=1/0=1|true;", 3, 2, 4, 1);
    Check.steps("f()=if 1/0=1 then 1 else 2;", 3, 2, 4, 1);
    Check.steps("f()=loop a=1 while 1/0=1 next a=1 give 1;", 3, 2, 4, 1);
    Check.steps("x()=tab z[i<1/0] of 1;", 2, 2, 4, 1);
    Check.steps("x()=tab z[i<-1] of 1;", 2, 2, 4, 3);
    Check.steps("x()=tab z[i<21] of 1;", 1, 2, 4, 3);
    Check.steps("f()=x()[9];x()=tab z[i<0] of 1;", 3, 2, 4, 2);
    Check.steps("f()=x()[9];x()=tab z[i<21] of 1;", 3, 2, 4, 3);
  }
}
