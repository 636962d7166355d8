/** The terms of EVALUATION, EVENTS and VALUES, each RUN with several schedules. */
public final class EvaluationTest {
  private static final long NO = Check.NO_SUCH_ELEMENT;
  /** Never gives a value: 1 EVENT for the call, 2 for the table and its cell. */
  private static final String NEVER = "never()=(tab z[i<1] of z[0])[0];";

  public static void main(String[] args) {
    arithmetic();
    precedence();
    errors();
    ifs();
    lets();
    calls();
    loops();
    tables();
    lenience();
    Check.end();
  }

  private static void arithmetic() {
    Check.run("f(a,b)=a/b;", 1, 2, 1, -3, -7, 2);
    Check.run("f(a,b)=a%b;", 1, 2, 1, -1, -7, 2);
    Check.run("f(a,b)=a/b;", 1, 2, 1, -3, 7, -2);
    Check.run("f(a,b)=a%b;", 1, 2, 1, 1, 7, -2);
    Check.run("f(a,b)=a/b;", 1, 2, 1, Long.MIN_VALUE, Long.MIN_VALUE, -1);
    Check.run("f(a,b)=a%b;", 1, 2, 1, 0, Long.MIN_VALUE, -1);
    Check.run("f(a,b)=a+b;", 1, 2, 1, Long.MIN_VALUE, Long.MAX_VALUE, 1);
    Check.run("f(a,b)=a*b;", 1, 2, 1, -2, Long.MAX_VALUE, 2);
    Check.run("f(a)=-a;", 1, 2, 1, Long.MIN_VALUE, Long.MIN_VALUE);
    Check.run("t(a,b)=a<b;", 1, 2, 2, 1, Long.MIN_VALUE, Long.MAX_VALUE);
    Check.run("t(a,b)=a=b;", 1, 2, 2, 0, 1L << 32, 0);
    for (int a = 0; a < 2; a++) {
      for (int b = 0; b < 2; b++) {
        Check.run("t(a,b)=a=1|b=1;", 3, 2, 2, a | b, a, b);
        Check.run("t(a,b)=a=1&b=1;", 3, 2, 2, a & b, a, b);
      }
      Check.run("t(a)=!(a=1);", 2, 2, 2, 1 - a, a);
    }
  }

  private static void precedence() {
    Check.run("f()=1+2*3;", 2, 2, 1, 7);
    Check.run("f()=10-3-2;", 2, 2, 1, 5);
    Check.run("f()=100/10/5;", 2, 2, 1, 2);
    Check.run("f()=100/(10/5);", 2, 2, 1, 50);
    Check.run("f()=7%4*2;", 2, 2, 1, 6);
    Check.run("f()=-2*-3;", 3, 2, 1, 6);
    Check.run("f()=--5;", 2, 2, 1, 5);
    Check.run("f()=2-----3;", 5, 2, 1, -1);
    Check.run("t()=1+1<3&2*2=4|false;", 6, 2, 2, 1);
    Check.run("t()=true|false&false;", 2, 2, 2, 1);
    Check.run("t()=(true|false)&false;", 2, 2, 2, 0);
    Check.run("t()=!false&false;", 2, 2, 2, 0);
    Check.run("t()=!!true;", 2, 2, 2, 1);
    Check.run("f()=-(tab z[i<2] of i+4)[1];", 7, 2, 1, -5);
    Check.run("f()=let a=1 in a+let1();let1()=2;", 2, 2, 1, 3);
    Check.run("f()=if true then 1 else 2+3;", 1, 2, 1, 1);
    Check.run("f()=(if true then 1 else 2)+3;", 2, 2, 1, 4);
    Check.run("f()=loop a=1 while a<2 next a=a+1 give a+3;", 6, 2, 1, 5);
    Check.run("f()=(tab z[i<1] of 2+3)[0]+4;", 5, 2, 1, 9);
  }

  private static void errors() {
    Check.run("f()=1%0;", 1, 2, 4, 1);
    Check.run("f()=0/0;", 1, 2, 4, 1);
    Check.run("f()=(tab z[i<1] of 1)[1];", 3, 2, 4, 2);
    Check.run("f()=(tab z[i<1] of 1)[-1];", 4, 2, 4, 2);
    Check.run("f(n)=(tab z[i<1] of 1)[n];", 3, 2, 4, 2, 1L << 32);
    Check.run("f()=(tab z[i<99] of 1)[0];", 2, 2, 4, 3);
    Check.run("f()=(tab z[i<99] of 1)[0]+1/0;", 4, 2, 4, 1);
    Check.run("f()=1/0+(tab z[i<99] of 1)[0];", 4, 2, 4, 1);
    Check.run("f()=(tab z[i<99] of 1)[1/0];", 3, 2, 4, 1);
    Check.run("f()=(tab z[i<1/0] of 1)[0];", 3, 2, 4, 1);
    Check.run("f()=(tab z[i<1] of 1)[1]+(tab z[i<99] of 1)[0];", 6, 2, 4, 2);
    Check.run("f()=(tab z[i<1] of 1)[1]/0;", 4, 2, 4, 2);
    Check.run("f()=(tab z[i<1] of 1/0)[0];", 4, 2, 4, 1);
    Check.run("f()=-(1/0);", 2, 2, 4, 1);
    Check.run("t()=!(1/0=1)|true;", 4, 2, 4, 1);
    Check.run("t()=false&1/0=1;", 3, 2, 4, 1);
    Check.run("f()=if 1/0=1 then 2 else 3/0;", 3, 2, 4, 1);
    Check.run("f()=loop a=1 while 1/a=1 next a=a-1 give 7;", 7, 2, 4, 1);
    Check.run("x()=tab z[i<1/0] of 1/0;", 2, 2, 4, 1);
    Check.run("f()=g(1/0);g(n)=5;", 2, 2, 1, 5);
    Check.run("f()=let a=1/0 in 6;", 1, 2, 1, 6);
  }

  private static void ifs() {
    Check.run("f(n)=if n<3 then n+1 else n*2*2;", 3, 2, 1, 3, 2);
    Check.run("f(n)=if n<3 then n+1 else n*2*2;", 4, 2, 1, 16, 4);
    Check.run("f(n)=if true then if false then 1 else 2 else 3;", 2, 2, 1, 2);
    Check.run("f(n)=if if n<1 then true else false then 1 else 2;", 3, 2, 1, 2, 5);
    Check.run("x(n)=if n<1 then tab z[i<1] of 1 else tab y[j<2] of 1;", 5, 2, 3, 2, 5);
  }

  private static void lets() {
    Check.run("f(n)=let a=n in let b=a in let c=b in c;", 0, 2, 1, 8, 8);
    Check.run("f(n)=let a=n+1 in a*a;", 2, 2, 1, 81, 8);
    Check.run("f(n)=let a=let b=n+1 in b*b in a+a;", 3, 2, 1, 162, 8);
    Check.run("f(n)=let s=n<1 in let x=tab z[i<2] of i in if s then x[0] else x[1];", 6, 2, 1, 1, 5);
    Check.run("f(n)=let a=n+1 in if n<0 then a else a+a;", 4, 2, 1, 18, 8);
  }

  private static void calls() {
    Check.run("f(n)=g(n,g(n,1));g(a,b)=a*10+b;", 6, 2, 1, 101, 5);
    Check.run("f(n)=if n<2 then n else f(n-1)+f(n-2);", 65, 2, 1, 5, 5);
    Check.run("f(n)=if n<1 then 0 else f(n-1);", 5 * 4 + 2, 2, 1, 0, 5);
    Check.run("f(n)=g(n<3,tab z[i<2] of n);g(s,v)=if s then v[0] else v[1];", 7, 2, 1, 5, 5);
    Check.run("f(n)=g(n);g(n)=h(n);h(n)=n;", 2, 2, 1, 5, 5);
    Check.run("f()=g(g(g(1)));g(n)=2;", 3, 2, 1, 2);
  }

  private static void loops() {
    Check.run("f(n)=loop k=0,m=1 while k<n next k=k+1 give m+k+n;", 16, 2, 1, 9, 4);
    Check.run("f(n)=loop a=0,b=1,k=0 while k<n next a=b,b=a+b,k=k+1 give a;", 42, 2, 1, 55, 10);
    Check.run("f(n)=loop a=1,b=2 while a<b next a=b,b=a give a*10+b;", 6, 2, 1, 21);
    Check.run("f(n)=loop k=0 while false next k=k+1 give k;", 1, 2, 1, 0);
    Check.run("f(n)=loop k=0,j=0 while k<2 next k=k+1,"
        + "j=loop i=0,m=j while i<2 next i=i+1,m=m+k give m give j;", 3 + 3 + 2 + 2 * (3 + 3 + 4), 2, 1, 2);
    Check.run("f(n)=loop k=0,x=tab z[i<2] of i while k<1 next k=k+1,x=tab y[i<1] of x[1]+8 give x[0];",
        2 + 2 + 1 + 3 + 4 + 1, 2, 1, 9);
    Check.run("f(n)=loop k=0,s=true while s next s=k<2,k=k+1 give k;", 4 + 6, 2, 1, 4 - 1);
    Check.run("s(n)=loop k=0 while k<n next k=k+1 give k=n;", 3 * 2 + 3, 2, 2, 1, 2);
    Check.run("f(n)=loop k=0 while k<3 next k=k+n/n give k;", 2 + 2 + 2, 2, 4, 1, 0);
  }

  private static void tables() {
    Check.run("x(n)=tab z[i<n] of if i<2 then i else z[i-1]+z[i-2];", 55, 2, 3, 8, 8);
    Check.run("f(n)=(tab z[i<n] of if i<2 then i else z[i-1]+z[i-2])[n-1];", 57, 2, 1, 13, 8);
    Check.run("f(n)=(tab z[i<3] of if i=2 then 5 else z[i+1])[0];", 4 + 6 + 4 + 1, 2, 1, 5);
    Check.run("f(n)=(tab z[i<2] of (tab y[j<3] of i*10+j)[2])[1];", 3 + 2 * (4 + 6 + 1) + 1, 2, 1, 12);
    Check.run("f(n)=let x=tab z[i<2] of i+n in (tab z[i<2] of x[1-i])[0];", 5 + 7 + 1, 2, 1, 8, 7);
    Check.run("x(n)=y(tab z[i<n] of i);y(v)=tab w[i<2] of v[i]*2;", 1 + 4 + 3 + 4, 2, 3, 2, 3);
  }

  /** What is entered goes on, whatever else never comes. */
  private static void lenience() {
    Check.run("f()=let a=never() in 5+6;" + NEVER, 4, 2, 1, 11);
    Check.run("f()=never()+1/0;" + NEVER, 4, 3, 0, NO);
    Check.run("t()=true|never()=1;" + NEVER, 3, 3, 0, NO);
    Check.run("f()=g(never(),3);g(a,b)=b+1;" + NEVER, 5, 2, 1, 4);
    Check.run("f()=g(never(),3);g(a,b)=a+(b+1);" + NEVER, 5, 3, 0, NO);
    Check.run("f()=if never()=1 then 1+1 else 2+2;" + NEVER, 3, 3, 0, NO);
    Check.run("f()=loop a=never(),b=0 while b<2 next b=b+1,a=a+1 give b;" + NEVER, 11, 2, 1, 2);
    Check.run("f()=loop a=never(),b=0 while b<2 next b=b+1 give a;" + NEVER, 11, 3, 0, NO);
    Check.run("f()=loop a=0,b=0 while b<2 next b=b+1,a=never() give b;" + NEVER, 14, 2, 1, 2);
    Check.run("f()=loop a=0 while a<1&s(a) next a=never() give 5;s(n)=true;" + NEVER, 8, 3, 0, NO);
    Check.run("f()=loop a=0 while true next a=never() give 5;" + NEVER, 1000, 4, 0, NO);
    Check.run("f()=(tab z[i<2] of if i=0 then never() else 4)[1];" + NEVER, 11, 2, 1, 4);
    Check.run("x()=tab z[i<never()] of 1;" + NEVER, 3, 3, 0, NO);
    Check.run("f()=(tab z[i<1] of 4)[never()];" + NEVER, 5, 3, 0, NO);
    Check.run("f()=never()+g(2)*3;g(n)=n;" + NEVER, 5, 3, 0, NO);
  }
}
