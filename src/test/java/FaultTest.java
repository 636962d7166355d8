/** Promise 4: fault; the FAULTS of the terms. */
public final class FaultTest {
  public static void main(String[] args) {
    calls();
    tokens();
    form();
    tooMany();
    brackets();
    unknown();
    boundTwice();
    functions();
    next();
    types();
    typesOfParts();
    typesOfTab();
    order();
    Check.end();
  }

  private static void calls() {
    TagFlow x = new TagFlow();
    Check.due("fault(2)", x.fault(2), -1);
    Check.due("fault(-1)", x.fault(-1), -1);
    Check.compile(x, "f(n)=m;");
    Check.due("fault(0)", x.fault(0), 2);
    Check.due("fault(1)", x.fault(1), 5);
    Check.due("fault(2)", x.fault(2), -1);
    Check.due("fault(MIN)", x.fault(Integer.MIN_VALUE), -1);
    Check.type(x, "f(n)=n;");
    Check.due("typing leaves it", x.fault(0), 2);
    Check.due("compile", Check.compile(x), 1);
    Check.due("fault(0)", x.fault(0), 0);
    Check.due("fault(1)", x.fault(1), 0);
    Check.start(x, 0, 1);
    Check.compile(x, "  ?");
    Check.due("fault(0)", x.fault(0), 1);
    Check.due("fault(1)", x.fault(1), 2);
  }

  private static void tokens() {
    Check.fault("f(n)=N;", 1, 5);
    Check.fault("f(n)=n>1;", 1, 6);
    Check.fault("f(n)=n_;", 1, 6);
    Check.fault("f(n)=n+abcdefg;", 1, 7);
    Check.fault("f(n)=n+abc1234;", 1, 7);
    Check.fault("f(n)=n+1234567abcdefg;", 1, 14);
    Check.fault("f(n)=n+12345678901;", 1, 7);
    Check.fault("f(n)=n+12345678901 ? ;", 1, 7);
    Check.fault("abcdefg(n)=n;", 1, 0);
    Check.fault("f(abcdefg)=1;", 1, 2);
    Check.fault("1(n)=n;", 1, 0);
    Check.fault("let(n)=n;", 1, 0);
    Check.fault("f(of)=1;", 1, 2);
  }

  private static void form() {
    Check.fault("", 1, 0);
    Check.fault("   ", 1, 3);
    Check.fault("f(n)=n   ", 1, 9);
    Check.fault("f(n)=", 1, 5);
    Check.fault("f(n)=n;g", 1, 8);
    Check.fault("f(n)=n;;", 1, 7);
    Check.fault("f(n,)=n;", 1, 4);
    Check.fault("f(,n)=n;", 1, 2);
    Check.fault("f(n m)=n;", 1, 4);
    Check.fault("f n=n;", 1, 2);
    Check.fault("f=n;", 1, 1);
    Check.fault("f(n)=;", 1, 5);
    Check.fault("f(n)=n n;", 1, 7);
    Check.fault("f(n)=n+;", 1, 7);
    Check.fault("f(n)=*n;", 1, 5);
    Check.fault("f(n)=n-!-;", 1, 9);
    Check.fault("f(n)=();", 1, 6);
    Check.fault("f(n)=(n;", 1, 7);
    Check.fault("f(n)=n);", 1, 6);
    Check.fault("f(n)=f(n;", 1, 8);
    Check.fault("f(n)=f(,);", 1, 7);
    Check.fault("f(n)=f(n,);", 1, 9);
    Check.fault("x(x)=x[];", 1, 7);
    Check.fault("x(x)=x[1);", 1, 8);
    Check.fault("t(n)=1=2=3;", 1, 8);
    Check.fault("t(n)=1<2<3;", 1, 8);
    Check.fault("t(n)=1<2=3;", 1, 8);
    Check.fault("t(n)=(1<2)=3;", 3, 5);
    Check.fault("t(n)=let a=1 in 1=2=3;", 1, 19);
    Check.fault("t(n)=if true then true else 1=2=3;", 1, 31);
    Check.fault("t(n)=loop a=1 while 1=2=3 next a=1 give true;", 1, 23);
    Check.fault("t(n)=loop a=1 while 1=2 next a=1 give 1=2=3;", 1, 41);
    Check.fault("t(n)=1<2&3=4|5<6;", 0, 0);
    Check.fault("f(n)=let n in n;", 1, 11);
    Check.fault("f(n)=let =1 in n;", 1, 9);
    Check.fault("f(n)=let a=1 n;", 1, 13);
    Check.fault("f(n)=let a=1 in;", 1, 15);
    Check.fault("f(n)=1+let a=1 in a;", 1, 7);
    Check.fault("f(n)=1+(let a=1 in a);", 0, 0);
    Check.fault("f(n)=-if true then 1 else 2;", 1, 6);
    Check.fault("f(n)=if true then 1;", 1, 19);
    Check.fault("f(n)=if true 1 else 2;", 1, 13);
    Check.fault("f(n)=if true then 1 else 2 else 3;", 1, 27);
    Check.fault("f(n)=loop while true next n=1 give 1;", 1, 10);
    Check.fault("f(n)=loop a=1 next a=1 give 1;", 1, 14);
    Check.fault("f(n)=loop a=1 while true give 1;", 1, 25);
    Check.fault("f(n)=loop a=1 while true next give 1;", 1, 30);
    Check.fault("f(n)=loop a=1 while true next a=1;", 1, 33);
    Check.fault("x(n)=tab z[i=3] of 1;", 1, 12);
    Check.fault("x(n)=tab z[3] of 1;", 1, 11);
    Check.fault("x(n)=tab z(i<3) of 1;", 1, 10);
    Check.fault("x(n)=tab z[i<3] 1;", 1, 16);
    Check.fault("x(n)=tab z[i<3 of 1;", 1, 15);
  }

  private static void tooMany() {
    Check.fault("f(a,b,c,d)=1;", 0, 0);
    Check.fault("f(a,b,c,d,e)=1;", 1, 10);
    Check.fault("f(a,b,c,d,1)=1;", 1, 10);
    Check.fault("f(a,b,c,d)=f(1,2,3,4);", 0, 0);
    Check.fault("f(a,b,c,d)=f(1,2,3,4,-5);", 1, 21);
    Check.fault("f(n)=loop a=1,b=1,c=1,d=1 while true next a=1 give 1;", 0, 0);
    Check.fault("f(n)=loop a=1,b=1,c=1,d=1,e=1 while true next a=1 give 1;", 1, 26);
    Check.fault("f(n)=loop a=1,b=1,c=1,d=1 while true next d=1,c=1,b=1,a=1 give 1;", 0, 0);
    Check.fault("f(n)=loop a=1,b=1,c=1,d=1 while true next d=1,c=1,b=1,a=1,e=1 give 1;", 2, 58);
    String eight = "a()=1;b()=1;c()=1;d()=1;e()=1;f()=1;g()=1;h()=1;";
    Check.fault(eight, 0, 0);
    Check.fault(eight + "  ", 0, 0);
    Check.fault(eight + " i()=1;", 1, 49);
    Check.fault(eight + ";", 1, 48);
  }

  private static void brackets() {
    String nineteen = "(".repeat(19);
    Check.fault("f(n)=" + nineteen + "n" + ")".repeat(19) + ";", 0, 0);
    Check.fault("f(n)=" + nineteen + "(n" + ")".repeat(20) + ";", 1, 25);
    Check.fault("f(n)=" + nineteen + "g()" + ")".repeat(19) + ";g()=1;", 0, 0);
    Check.fault("f(n)=" + nineteen + "f(1)" + ")".repeat(19) + ";", 1, 26);
    Check.fault("f(x)=" + nineteen + "x[1]" + ")".repeat(19) + ";", 1, 26);
    Check.fault("x(n)=" + nineteen + "tab z[i<3] of 1" + ")".repeat(19) + ";", 1, 32);
    Check.fault("f(n)=" + nineteen + "-1" + ")".repeat(19) + ";", 0, 0);
    Check.fault("f(n)=" + "f(".repeat(19) + "n" + ")".repeat(19) + ";", 0, 0);
    Check.fault("f(n)=" + "f(".repeat(20) + "n" + ")".repeat(20) + ";", 1, 45);
    Check.fault("f(n)=" + "f(".repeat(20), 1, 45);
    Check.fault("f(n)=" + "(n)+".repeat(30) + nineteen + "n" + ")".repeat(19) + ";", 0, 0);
    Check.fault("f(n)=" + "(tab z[i<1]of 1)[0]+".repeat(22) + "f(n);", 0, 0);
    Check.fault("f(x)=" + "f(x)+x[1]+".repeat(40) + nineteen + "1" + ")".repeat(19) + ";", 0, 0);
    TagFlow x = new TagFlow();
    Check.due("open ones", Check.compile(x, "f(n)=" + nineteen), Check.ILLEGAL_ARGUMENT);
    Check.due("are of no account later", Check.compile(x, "f(n)=(((n)));"), 1);
    Check.fault("f(n)=" + "n+".repeat(200) + nineteen + "n" + ")".repeat(19) + ";", 0, 0);
    Check.fault("f(n)=" + "if ".repeat(160) + ";", 1, 485);
    Check.fault("f(n)=" + "-".repeat(490) + "n;", 0, 0);
    Check.fault("f(n)=" + "let a=".repeat(80) + ";", 1, 485);
  }

  private static void unknown() {
    Check.fault("f(n)=m;", 2, 5);
    Check.fault("f(n)=f;", 2, 5);
    Check.fault("f(n)=let a=a in a;", 2, 11);
    Check.fault("f(n)=(let a=1 in a)+a;", 2, 20);
    Check.fault("f(n)=n;g(m)=n;", 2, 12);
    Check.fault("f(n)=loop a=1,b=a while true next a=1 give b;", 2, 16);
    Check.fault("f(n)=loop a=1 while a<a next a=a give a;", 0, 0);
    Check.fault("f(n)=(loop a=1 while a<a next a=a give a)+a;", 2, 42);
    Check.fault("x(n)=tab z[i<i] of 1;", 2, 13);
    Check.fault("x(n)=tab z[i<z[1]] of 1;", 2, 13);
    Check.fault("x(n)=tab z[i<3] of z[i];", 0, 0);
    Check.fault("f(n)=(tab z[i<3] of z[i])[i];", 2, 26);
  }

  private static void boundTwice() {
    Check.fault("f(n,n)=1;", 2, 4);
    Check.fault("f(n)=let n=1 in n;", 2, 9);
    Check.fault("f(n)=let a=1 in let a=2 in a;", 2, 20);
    Check.fault("f(n)=let a=let a=1 in a in a;", 0, 0);
    Check.fault("f(n)=(let a=1 in a)+(let a=1 in a);", 0, 0);
    Check.fault("f(n)=loop n=1 while true next n=1 give 1;", 2, 10);
    Check.fault("f(n)=loop a=1,a=2 while true next a=1 give 1;", 2, 14);
    Check.fault("f(n)=loop a=1 while true next a=let a=1 in a give 1;", 2, 36);
    Check.fault("f(n)=loop a=let a=1 in a while true next a=1 give 1;", 0, 0);
    Check.fault("x(n,x)=tab x[i<3] of 1;", 2, 11);
    Check.fault("x(n)=tab z[n<3] of 1;", 2, 11);
    Check.fault("x(n)=tab z[z<3] of 1;", 2, 11);
    Check.fault("x(n)=tab z[i<let i=1 in i] of 1;", 0, 0);
    Check.fault("x(n)=tab z[i<3] of let i=1 in i;", 2, 23);
  }

  private static void functions() {
    Check.fault("f(n)=g(1);", 2, 5);
    Check.fault("f(n)=n(1);", 2, 5);
    Check.fault("f(n)=(f());", 2, 6);
    Check.fault("f(n)=f(1,2);", 2, 5);
    Check.fault("f(n)=g(1);g(m)=m;", 0, 0);
    Check.fault("f(n)=1;f(n)=2;", 2, 7);
    Check.fault("f(n)=1;f(a,b)=f(1);", 2, 7);
    Check.fault("g()=f(1,2);f(n)=1;f(a,b)=f(1);", 2, 4);
    Check.fault("f(f)=f+f(f);", 0, 0);
  }

  private static void next() {
    Check.fault("f(n)=loop a=1 while true next b=1 give 1;", 2, 30);
    Check.fault("f(n)=loop a=1 while true next n=1 give 1;", 2, 30);
    Check.fault("f(n)=loop a=1 while true next a=1,a=1 give 1;", 2, 34);
    Check.fault("f(n)=loop a=1 while true next a=loop b=1 while true next a=1 give 1 give 1;", 2, 57);
  }

  private static void types() {
    Check.fault("f(n)=true;", 3, 5);
    Check.fault("s(n)=1;", 3, 5);
    Check.fault("x(n)=1;", 3, 5);
    Check.fault("f(x)=x;", 3, 5);
    Check.fault("r(n)=1;u(n)=true;z(x)=x;", 0, 0);
    Check.fault("f(n)=1+true;", 3, 7);
    Check.fault("f(n)=true*1;", 3, 5);
    Check.fault("f(n)=1-(2<3);", 3, 7);
    Check.fault("f(n)=1+2<3;", 3, 5);
    Check.fault("f(n)=((1<2));", 3, 5);
    Check.fault("t(n)=1|true;", 3, 5);
    Check.fault("t(n)=true&1;", 3, 10);
    Check.fault("t(n)=true=true;", 3, 5);
    Check.fault("t(n)=1<true;", 3, 7);
    Check.fault("t(x)=x=x;", 3, 5);
    Check.fault("f(n)=-true;", 3, 6);
    Check.fault("t(n)=!n;", 3, 6);
    Check.fault("t(n)=!-n;", 3, 6);
    Check.fault("f(n)=!true;", 3, 5);
    Check.fault("t(n)=!!true&!false;", 0, 0);
    Check.fault("f(n)=n[1];", 3, 5);
    Check.fault("f(n)=1+n[1];", 3, 7);
    Check.fault("f(x)=x[true];", 3, 7);
    Check.fault("f(x)=x[1][2];", 3, 5);
    Check.fault("f(x)=-x[1];", 0, 0);
    Check.fault("t(x)=!x[1];", 3, 6);
    Check.fault("t(x)=x[1];", 3, 5);
    Check.fault("f(x)=(x)[1];", 0, 0);
    Check.fault("f(n,s,x)=f(1,true,x);", 0, 0);
    Check.fault("f(n,s,x)=f(true,true,x);", 3, 11);
    Check.fault("f(n,s,x)=f(1,(2),x);", 3, 13);
    Check.fault("f(n,s,x)=f(1,true,x[1]);", 3, 18);
    Check.fault("f(n)=g(true);g(s)=1;", 0, 0);
    Check.fault("f(n)=s(1);s(n)=true;", 3, 5);
  }

  private static void typesOfParts() {
    Check.fault("f(n)=if n then 1 else 2;", 3, 8);
    Check.fault("f(n)=if true then 1 else false;", 3, 25);
    Check.fault("f(n)=if true then true else false;", 3, 5);
    Check.fault("f(n)=if true then true else 1;", 3, 5);
    Check.fault("t(n)=if true then true else 1;", 3, 28);
    Check.fault("t(n)=if true then true else (if true then 1 else 2);", 3, 28);
    Check.fault("f(n)=1+(if true then true else false);", 3, 7);
    Check.fault("f(n)=let a=true in 1;", 3, 11);
    Check.fault("f(n)=let s=1 in 1;", 3, 11);
    Check.fault("f(n)=let a=1 in true;", 3, 5);
    Check.fault("f(n)=let x=tab z[i<1] of 1 in x[0];", 0, 0);
    Check.fault("f(n)=loop a=true while true next a=1 give 1;", 3, 12);
    Check.fault("f(n)=loop a=1 while 1 next a=1 give 1;", 3, 20);
    Check.fault("f(n)=loop a=1 while true next a=true give 1;", 3, 32);
    Check.fault("f(n)=loop a=1 while true next a=1 give true;", 3, 5);
    Check.fault("s(n)=loop a=1 while true next a=1 give true;", 0, 0);
  }

  private static void typesOfTab() {
    Check.fault("x(n)=tab a[i<3] of 1;", 3, 9);
    Check.fault("x(n)=tab z[s<3] of 1;", 3, 11);
    Check.fault("x(n)=tab z[i<true] of 1;", 3, 13);
    Check.fault("x(n)=tab z[i<3] of true;", 3, 19);
    Check.fault("f(n)=tab z[i<3] of 1;", 3, 5);
    Check.fault("f(n)=tab z[i<3] of i[0];", 3, 5);
    Check.fault("f(n)=1+tab z[i<3] of 1;", 3, 7);
    Check.fault("x(n)=tab z[i<3] of 1+2*3-4;", 0, 0);
    Check.fault("x(n)=tab z[i<3] of if true then 1 else 2;", 0, 0);
    Check.fault("f(n)=(tab z[i<3] of 1)[0];", 0, 0);
  }

  private static void order() {
    Check.fault("f(n)=m+true;?", 1, 12);
    Check.fault("f(n)=true+m;", 3, 5);
    Check.fault("f(n)=m+true;", 2, 5);
    Check.fault("f(n)=v;", 2, 5);
    Check.fault("f(n)=(v);", 3, 5);
    Check.fault("f(n)=1<m;", 3, 5);
    Check.fault("f(n)=g(true);g(n)=m;", 3, 7);
    Check.fault("f(n)=g(m);g(n,k)=1;", 2, 5);
    Check.fault("f(n)=let n=true in m;", 2, 9);
  }
}
