/** The boundary cases of FAULT 2: what is known where, what is bound or told a second time. */
public final class NamingBoundaryTest {
  public static void main(String[] args) {
    Check.sentence("(of one place the lesser kind)", NamingBoundaryTest::onePlace);
    Check.sentence("Else the first of these in the order of places", NamingBoundaryTest::order);
    Check.sentence("2: a NAME that is not known there", NamingBoundaryTest::unknown);
    Check.sentence("parameters within their FUNCTION", NamingBoundaryTest::parameters);
    Check.sentence("that of let behind in", NamingBoundaryTest::ofLet);
    Check.sentence("those of a loop behind while, next and give", NamingBoundaryTest::ofLoop);
    Check.sentence("those of tab behind of", NamingBoundaryTest::ofTab);
    Check.sentence("X knows i, and the table itself as z (n does not)", NamingBoundaryTest::ofSize);
    Check.sentence("no longer behind these", NamingBoundaryTest::noLonger);
    Check.sentence("one that is bound where it is known already", NamingBoundaryTest::boundAlready);
    Check.sentence("(also the second of two in one loop", NamingBoundaryTest::twoInLoop);
    Check.sentence("of two parameters", NamingBoundaryTest::twoParameters);
    Check.sentence("of the two of a tab", NamingBoundaryTest::twoOfTab);
    Check.sentence("a FUNCTION that is none", NamingBoundaryTest::noFunction);
    Check.sentence("or has another number of parameters", NamingBoundaryTest::otherNumber);
    Check.sentence(
        "the NAME with which a FUNCTION is told a second time (calls go by the first time)",
        NamingBoundaryTest::toldTwice);
    Check.sentence(
        "next of a NAME that is none of the loop, or is bound by it already: that NAME",
        NamingBoundaryTest::next);
    Check.end();
  }

  private static void onePlace() {
    Check.faultAt(2, "f()=^x;");
    Check.faultAt(2, "f()=^s;");
    Check.faultAt(2, "t()=^n&true;");
    Check.faultAt(2, "f()=^s(1);");
    Check.faultAt(2, "f()=1+^t();");
    Check.faultAt(2, "f()=^n[1];");
    Check.faultAt(2, "f()=^n[1][2];");
    Check.faultAt(2, "x(n)=tab z[^z<1] of 1;");
    Check.faultAt(2, "x(n)=tab ^n[i<1] of 1;");
    Check.faultAt(2, "x(s)=tab z[^s<1] of 1;");
    Check.faultAt(2, "f(x)=f(^n);");
    Check.faultAt(2, "f(n)=-^s;");
  }

  private static void order() {
    Check.faultAt(2, "f()=^m+true;");
    Check.faultAt(3, "f()=^true+m;");
    Check.faultAt(3, "f()=^1<m;");
    Check.faultAt(3, "f()=^(m<m);");
    Check.faultAt(3, "f()=^let a=m in true;");
    Check.faultAt(3, "f()=^if m then true else n;");
    Check.faultAt(3, "f()=g(^true);g(n)=m;");
    Check.faultAt(2, "f()=g(^m,true);g(a,b)=c;");
    Check.faultAt(3, "f()=^true;f()=1;");
    Check.faultAt(2, "f()=1;^f()=true;");
    Check.faultAt(2, "f()=^h(true);g(n)=true;");
    Check.faultAt(3, "f()=g(^true);g(n)=h();");
    Check.faultAt(1, "f()=m;g()=true;f()=1^");
    Check.faultAt(1, "f()=m;g()=true;h(a,a)=1^,");
  }

  private static void unknown() {
    Check.faultAt(2, "f()=^n;");
    Check.faultAt(2, "f(n)=n+^m+l;");
    Check.faultAt(2, "f(n)=-^m;");
    Check.faultAt(2, "f(n)=(^m);");
    Check.faultAt(2, "f(n)=f(^m);");
    Check.faultAt(2, "f(n)=^x[n];");
    Check.faultAt(2, "f(x)=x[^n];");
    Check.faultAt(2, "f(n)=if ^s then 1 else 2;");
    Check.faultAt(2, "f(n)=if true then ^m else 2;");
    Check.faultAt(2, "f(n)=if true then 1 else ^m;");
  }

  private static void parameters() {
    Check.sound("f(a,b,c,d)=a+b+c+d;");
    Check.faultAt(2, "f(n)=n;g(m)=^n;");
    Check.faultAt(2, "f(n)=^m;g(m)=m;");
    Check.sound("f(n)=n;g(n)=n;");
    Check.faultAt(2, "f(n)=n;g()=^n;");
  }

  private static void ofLet() {
    Check.sound("f()=let a=1 in a;");
    Check.faultAt(2, "f()=let a=^a in 1;");
    Check.faultAt(2, "f()=let x=tab z[i<1] of ^x[0] in 1;");
    Check.sound("f()=let a=1 in let b=a in a+b;");
    Check.faultAt(2, "f()=let a=^b in let b=1 in a;");
    Check.faultAt(2, "f()=let a=let b=1 in b in ^b;");
    Check.sound("f()=let a=let a=1 in a in a;");
  }

  private static void ofLoop() {
    Check.sound("f()=loop a=1,b=2 while a<b next a=b,b=a give a+b;");
    Check.faultAt(2, "f()=loop a=^a while true next a=1 give 1;");
    Check.faultAt(2, "f()=loop a=1,b=^a while true next a=1 give 1;");
    Check.faultAt(2, "f()=loop a=^b,b=1 while true next a=1 give 1;");
    Check.sound("f()=loop a=let b=1 in b,b=let a=1 in a while true next a=1 give 1;");
    Check.sound("f()=loop a=1 while true next a=loop b=a while b<a next b=a give a+b give a;");
  }

  private static void ofTab() {
    Check.sound("x()=tab z[i<9] of i+z[i];");
    Check.sound("x()=tab z[i<9] of (tab y[j<i] of z[i]+y[j])[i];");
    Check.faultAt(2, "x()=tab z[i<9] of ^j;");
    Check.faultAt(2, "x()=tab z[i<9] of ^y[i];");
  }

  private static void ofSize() {
    Check.faultAt(2, "x()=tab z[i<^i] of 1;");
    Check.faultAt(2, "x()=tab z[i<^z[0]] of 1;");
    Check.sound("x(n)=tab z[i<n] of n;");
    Check.sound("x()=tab z[i<let i=1 in i] of i;");
    Check.sound("x()=tab z[i<(tab z[i<1] of z[i])[0]] of z[i];");
  }

  private static void noLonger() {
    Check.faultAt(2, "f()=(let a=1 in a)+^a;");
    Check.faultAt(2, "f()=let a=let b=1 in b in ^b;");
    Check.faultAt(2, "f(n)=f(let a=1 in a)+^a;");
    Check.faultAt(2, "f()=if let s=true in s then 1 else if ^s then 1 else 2;");
    Check.faultAt(2, "f()=if true then let a=1 in a else ^a;");
    Check.faultAt(2, "f()=(loop a=1 while true next a=1 give a)+^a;");
    Check.faultAt(2, "f()=let b=loop a=1 while true next a=1 give a in ^a;");
    Check.faultAt(2, "f()=(tab z[i<1] of i)[^i];");
    Check.faultAt(2, "f()=(tab z[i<1] of i)[0]+^z[0];");
    Check.faultAt(2, "f(x,n)=f(tab z[i<1] of i,^i);");
    Check.sound("f()=(let a=1 in a)+(let a=2 in a);");
    Check.sound("f()=(loop a=1 while true next a=1 give a)+(loop a=1 while true next a=1 give a);");
    Check.sound("f()=(tab z[i<1] of i)[0]+(tab z[i<1] of i)[0];");
    Check.sound("f()=if true then let a=1 in a else let a=2 in a;");
    Check.sound("f()=let a=(let b=1 in b)+(let b=1 in b) in let b=a in b;");
  }

  private static void boundAlready() {
    Check.faultAt(2, "f(a)=let ^a=1 in a;");
    Check.faultAt(2, "f()=let a=1 in let ^a=2 in a;");
    Check.faultAt(2, "f()=let a=1 in let b=let ^a=2 in a in a;");
    Check.faultAt(2, "f(a)=loop ^a=1 while true next a=1 give 1;");
    Check.faultAt(2, "f(a)=loop b=1,^a=1 while true next a=1 give 1;");
    Check.faultAt(2, "f()=loop a=1 while let ^a=true in true next a=1 give 1;");
    Check.faultAt(2, "f()=loop a=1 while true next a=let ^a=1 in 1 give 1;");
    Check.faultAt(2, "f()=loop a=1 while true next a=1 give let ^a=1 in 1;");
    Check.faultAt(2, "f()=loop a=1,b=1 while true next b=1 give loop ^b=1 while true next b=1 give 1;");
    Check.faultAt(2, "x(z)=tab ^z[i<1] of 1;");
    Check.faultAt(2, "x(i)=tab z[^i<1] of 1;");
    Check.faultAt(2, "x()=tab z[i<1] of let ^i=1 in 1;");
    Check.faultAt(2, "x()=tab z[i<1] of (tab ^z[j<1] of 1)[0];");
    Check.faultAt(2, "x()=tab z[i<1] of (tab y[^i<1] of 1)[0];");
    Check.sound("f(a)=1;g()=let a=1 in a;");
  }

  private static void twoInLoop() {
    Check.faultAt(2, "f()=loop a=1,^a=1 while true next a=1 give 1;");
    Check.faultAt(2, "f()=loop a=1,b=1,^a=1 while true next a=1 give 1;");
    Check.faultAt(2, "f()=loop a=1,b=1,c=1,^a=1 while true next a=1 give 1;");
    Check.faultAt(2, "f()=loop a=1,b=1,c=1,^c=true while true next a=1 give 1;");
    Check.sound("f()=loop a=1 while true next a=1 give loop b=1 while true next b=1 give 1;");
  }

  private static void twoParameters() {
    Check.faultAt(2, "f(a,^a)=1;");
    Check.faultAt(2, "f(a,b,^a)=1;");
    Check.faultAt(2, "f(a,b,c,^a)=1;");
    Check.faultAt(2, "f(a,b,c,^c)=1;");
    Check.faultAt(2, "f(a,b,^b,b)=1;");
    Check.sound("f(a,b,c,aa)=1;");
  }

  private static void twoOfTab() {
    Check.faultAt(2, "x()=tab z[^z<1] of 1;");
    Check.faultAt(3, "x()=tab ^i[i<1] of 1;");
    Check.sound("x()=tab z[r<1] of 1;");
  }

  private static void noFunction() {
    Check.faultAt(2, "f()=^g();");
    Check.faultAt(2, "f(n)=^n();");
    Check.faultAt(2, "f(n)=f(^g(n));");
    Check.faultAt(2, "f(n)=^ff(n);");
    Check.faultAt(2, "ff(n)=^f(n);");
    Check.faultAt(2, "f(n)=-^g(1,true);");
    Check.faultAt(2, "f()=1+ ^g(m);");
  }

  private static void otherNumber() {
    String[] names = {"a", "b", "c", "d"};
    String[] given = {"1", "1", "1", "1"};
    for (int has = 0; has <= 4; has++) {
      for (int gets = 0; gets <= 4; gets++) {
        String told = "g(" + String.join(",", java.util.Arrays.copyOf(names, has)) + ")=1;";
        String call = "g(" + String.join(",", java.util.Arrays.copyOf(given, gets)) + ");";
        Check.fault("f()=" + call + told, has == gets ? 0 : 2, has == gets ? 0 : 4);
        Check.fault(told + "f()=" + call, has == gets ? 0 : 2, has == gets ? 0 : told.length() + 4);
      }
    }
    Check.faultAt(2, "f(n)=^f();");
    Check.faultAt(2, "f()=^f(m);");
    Check.faultAt(2, "f(n)=f(^f());");
    Check.faultAt(2, "f(n)=^f(true,true);");
  }

  private static void toldTwice() {
    Check.faultAt(2, "f()=1;^f()=1;");
    Check.faultAt(2, "f()=1;g()=1;^f()=1;");
    Check.faultAt(2, "f()=1;^f(n)=1;");
    Check.faultAt(2, "f()=1;^f()=1;f()=1;");
    Check.faultAt(2, "a()=1;b()=1;c()=1;d()=1;e()=1;f()=1;g()=1;^a()=1;");
    Check.faultAt(2, "g()=f(1);f(n)=1;^f(a,b)=1;");
    Check.faultAt(2, "g()=^f(1,2);f(n)=1;f(a,b)=1;");
    Check.faultAt(2, "g()=f(1);f(n)=1;^f(s)=1;");
    Check.faultAt(3, "g()=f(^true);f(n)=1;f(s)=1;");
    Check.faultAt(1, "f()=1;f()=1^");
  }

  private static void next() {
    Check.faultAt(2, "f()=loop a=1 while true next ^b=1 give 1;");
    Check.faultAt(2, "f(n)=loop a=1 while true next ^n=1 give 1;");
    Check.faultAt(2, "f()=loop a=1 while true next a=1,^b=1 give 1;");
    Check.faultAt(2, "f()=loop a=1 while true next a=1,^a=1 give 1;");
    Check.faultAt(2, "f()=loop a=1,b=1 while true next b=1,a=1,^b=1 give 1;");
    Check.faultAt(2, "f()=loop a=1 while true next ^b=m give 1;");
    Check.faultAt(2, "f()=loop a=1 while true next a=loop b=1 while true next ^a=1 give 1 give 1;");
    Check.faultAt(2, "f()=loop a=loop b=1 while true next b=1 give 1 while true next ^b=1 give 1;");
    Check.faultAt(2, "f()=let c=1 in loop a=1 while true next ^c=1 give 1;");
    Check.faultAt(2, "f()=loop a=1 while true next a=let b=1 in b,^b=1 give 1;");
    Check.faultAt(2, "f()=loop a=1,b=1,c=1,d=1 while true next a=1,b=1,c=1,d=1,^a=1 give 1;");
    Check.sound("f()=loop a=loop b=1 while true next b=1 give 1 while true next a=1 give 1;");
    Check.sound("f()=loop a=1 while true next a=loop b=1 while true next b=1 give 1 give 1;");
  }
}
