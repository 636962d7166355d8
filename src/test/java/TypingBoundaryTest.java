/** The boundary cases of FAULT 3: which X is wanted to be of which type, and where it begins. */
public final class TypingBoundaryTest {
  /** An X of each type, of several forms; each begins with its own first TOKEN. */
  private static final String[] NUMBERS = {
    "1", "(1)", "n", "-1", "1+2", "n*n", "x[1]", "x[1]-n", "f(1)", "(n)%n",
  };
  private static final String[] TRUTHS = {
    "true", "(true)", "false", "s", "!s", "s|s", "true&s", "1<2", "1=n", "t(1)", "n+n<n", "-n=n",
  };
  private static final String[] TABLES = {"x", "(x)", "v(1)", "((x))"};
  /** FUNCTIONS for those to call. */
  private static final String TOLD = "f(n)=n;t(n)=true;v(n)=tab y[j<n] of j;";

  public static void main(String[] args) {
    Check.sentence("X has the NAME's type", TypingBoundaryTest::functions);
    Check.sentence("3: an X of another type than is wanted: its first TOKEN",
        TypingBoundaryTest::operands);
    Check.sentence("of an ATOM that is a NAME or FUNCTION that NAME", TypingBoundaryTest::atoms);
    Check.sentence("of one in ( ) the (", TypingBoundaryTest::brackets);
    Check.sentence("of if, let, loop that WORD", TypingBoundaryTest::words);
    Check.sentence("of what stands ahead of [ that", TypingBoundaryTest::aheadOfElement);
    Check.sentence("(of a table, by a number: a number, so there is a FAULT 3 with a second one)",
        TypingBoundaryTest::secondElement);
    Check.sentence("of = < both numbers", TypingBoundaryTest::comparisons);
    Check.sentence("of if a truth behind it", TypingBoundaryTest::conditions);
    Check.sentence(
        "its two parts of one type, that of the first one, which is that of the if (the second one "
            + "is the fault; the if itself, if that is not wanted)",
        TypingBoundaryTest::parts);
    Check.sentence("let and loop are of the type of their last X", TypingBoundaryTest::lastX);
    Check.sentence("of tab and loops the type of the NAME", TypingBoundaryTest::boundOnes);
    Check.sentence("(n a number, the cell a number, behind while a truth)",
        TypingBoundaryTest::sizeCellWhile);
    Check.sentence("of tab a NAME that is no table's, the second one that is no number's: that NAME",
        TypingBoundaryTest::namesOfTab);
    Check.sentence("an X of another type than is wanted", TypingBoundaryTest::arguments);
    Check.end();
  }

  /** Puts each X in the place of the @: a FAULT where the ^ is, but for those of the type. */
  private static void wanted(int type, String text) {
    String[][] all = {NUMBERS, TRUTHS, TABLES};
    for (int i = 0; i < 3; i++) {
      for (String x : all[i]) {
        String tape = text.replace("@", x) + TOLD;
        if (i + 1 == type) {
          Check.sound(tape.replace("^", ""));
        } else {
          Check.faultAt(3, tape);
        }
      }
    }
  }

  private static void functions() {
    wanted(1, "h(n,s,x)=^@;");
    wanted(2, "u(n,s,x)=^@;");
    wanted(3, "z(n,s,x)=^@;");
  }

  private static void operands() {
    for (String sign : new String[] {"+", "-", "*", "/", "%"}) {
      wanted(1, "h(n,s,x)=1" + sign + "^(@);");
      wanted(1, "h(n,s,x)=^(@)" + sign + "1;");
      Check.faultAt(3, "h()=^true" + sign + "1;");
      Check.faultAt(3, "h()=1" + sign + "^false" + sign + "2;");
      Check.faultAt(3, "h()=1" + sign + " ^(1<2);");
      Check.faultAt(3, "t()=^1" + sign + "2;");
      Check.faultAt(3, "t()=true&^1" + sign + "2;");
    }
    for (String sign : new String[] {"|", "&"}) {
      wanted(2, "u(n,s,x)=true" + sign + "^(@);");
      wanted(2, "u(n,s,x)=^(@)" + sign + "true;");
      Check.faultAt(3, "t()=^1" + sign + "true;");
      Check.faultAt(3, "t()=true" + sign + "^1;");
      Check.faultAt(3, "t()=true" + sign + "true" + sign + " ^(1);");
      Check.faultAt(3, "h()=^true" + sign + "true;");
      Check.faultAt(3, "h()=1+^(true" + sign + "true);");
    }
    wanted(1, "h(n,s,x)=-^(@);");
    wanted(2, "u(n,s,x)=!^(@);");
    Check.faultAt(3, "h()=-^true;");
    Check.faultAt(3, "h()=--^true;");
    Check.faultAt(3, "t()=!^1;");
    Check.faultAt(3, "t()=!!^-1;");
    Check.faultAt(3, "h()=^!true;");
    Check.faultAt(3, "t()=^-1;");
    Check.faultAt(3, "h(x)=-^x;");
    Check.faultAt(3, "h()=- ^tab z[i<1] of 1;");
  }

  private static void atoms() {
    Check.faultAt(3, "h(s)=^s;");
    Check.faultAt(3, "h(s)=1+^s;");
    Check.faultAt(3, "h(n)=1+^t(n);t(n)=true;");
    Check.faultAt(3, "h(n)=1+^v(n);v(n)=tab z[i<1] of 1;");
    Check.faultAt(3, "t(n)=^h(n);h(n)=1;");
    Check.faultAt(3, "h()=^tab z[i<1] of 1;");
    Check.faultAt(3, "h()=^true;");
    Check.faultAt(3, "t()=^9;");
  }

  private static void brackets() {
    Check.faultAt(3, "h()=^(true);");
    Check.faultAt(3, "h()=^((true));");
    Check.faultAt(3, "h()=^( ( true ) );");
    Check.faultAt(3, "h()=1+^(true);");
    Check.faultAt(3, "t()=^(1)+2;");
    Check.faultAt(3, "h()=(1+^(true));");
    Check.faultAt(3, "h()=^(if true then true else false);");
    Check.faultAt(3, "h(n)=^(n)[1];");
    Check.faultAt(3, "t(x)=^(x)[1];");
    Check.faultAt(3, "h(x)=^(x[1])[2];");
  }

  private static void words() {
    Check.faultAt(3, "h()=^if true then true else false;");
    Check.faultAt(3, "h()=^let a=1 in true;");
    Check.faultAt(3, "h()=^loop a=1 while true next a=1 give true;");
    Check.faultAt(3, "t()=^if true then 1 else 2;");
    Check.faultAt(3, "h()=let a=^let b=1 in true in 1;");
    Check.faultAt(3, "h()=if ^if true then 1 else 2 then 1 else 2;");
    Check.faultAt(3, "h()=if true then 1 else ^let a=1 in true;");
    Check.faultAt(3, "h()=if true then 1 else ^loop a=1 while true next a=1 give true;");
    Check.faultAt(3, "h()=^let a=1 in let b=1 in true;");
    Check.faultAt(3, "h()=^let a=1 in if true then true else false;");
  }

  private static void aheadOfElement() {
    wanted(3, "h(n,s,x)=^(@)[0];");
    wanted(1, "h(n,s,x)=x[^@];");
    Check.faultAt(3, "h(n)=^n[1];");
    Check.faultAt(3, "h(n)=1+^n[1];");
    Check.faultAt(3, "h(n)=^1[1];");
    Check.faultAt(3, "h(n)=^true[1];");
    Check.faultAt(3, "h(n)=-^n[1];");
    Check.faultAt(3, "h(n)=^h(n)[1];");
    Check.faultAt(3, "h(n)=^(n+n)[1];");
    Check.faultAt(3, "t(x)=^x[1];");
    Check.faultAt(3, "t(x)=!^x[1];");
    Check.faultAt(3, "t(n)=^v(n)[1];v(n)=tab z[i<1] of 1;");
    Check.sound("h(x)=x[1];");
    Check.sound("h(n)=v(n)[1];v(n)=tab z[i<1] of 1;");
    Check.sound("h()=(tab z[i<1] of 1)[0];");
    Check.faultAt(3, "h(x)=x[^true];");
    Check.faultAt(3, "h(x)=x[^x];");
    Check.faultAt(3, "h(x)=x[^1<2];");
  }

  private static void secondElement() {
    Check.faultAt(3, "h(x)=^x[1][1];");
    Check.faultAt(3, "h(x)=^(x)[1][1];");
    Check.faultAt(3, "h(n)=^v(n)[1][1];v(n)=tab z[i<1] of 1;");
    Check.faultAt(3, "h(x)=1-^x[1][1][1];");
    Check.faultAt(3, "h(x)=^x[true][true];");
    Check.sound("h(x)=x[x[1]];");
  }

  private static void comparisons() {
    for (String sign : new String[] {"=", "<"}) {
      wanted(1, "u(n,s,x)=1" + sign + "^(@);");
      wanted(1, "u(n,s,x)=^(@)" + sign + "1;");
      Check.sound("t(n)=n" + sign + "n;");
      Check.faultAt(3, "t(n)=^true" + sign + "n;");
      Check.faultAt(3, "t(n)=n" + sign + "^true;");
      Check.faultAt(3, "t(s)=^s" + sign + "s;");
      Check.faultAt(3, "t(x)=^x" + sign + "x;");
      Check.faultAt(3, "t(x)=1" + sign + "^x;");
      Check.faultAt(3, "t()=1" + sign + "^!true;");
      Check.faultAt(3, "h()=^1" + sign + "1;");
    }
  }

  private static void conditions() {
    wanted(2, "h(n,s,x)=if ^@ then 1 else 2;");
    Check.faultAt(3, "h()=if ^1 then 1 else true;");
    Check.faultAt(3, "h()=if  ^(1) then 1 else 2;");
  }

  private static void parts() {
    wanted(1, "h(n,s,x)=if true then 1 else ^@;");
    wanted(2, "u(n,s,x)=if true then true else ^@;");
    wanted(3, "z(n,s,x)=if true then x else ^@;");
    Check.faultAt(3, "h()=^if true then true else 1;");
    Check.faultAt(3, "h()=^if true then true else true;");
    Check.faultAt(3, "h(x)=^if true then x else 1;");
    Check.faultAt(3, "h()=1+^(if true then true else 1);");
    Check.faultAt(3, "h()=let s=if true then true else ^1 in 1;");
    Check.faultAt(3, "h()=let a=^if true then true else 1 in 1;");
    Check.faultAt(3, "h()=if true then if true then 1 else ^true else 1;");
    Check.faultAt(3, "h()=if true then 1 else if true then 1 else ^true;");
    Check.faultAt(3, "h()=if true then 1 else ^if true then true else 1;");
    Check.faultAt(3, "h()=^if true then if true then true else 1 else 1;");
  }

  private static void lastX() {
    Check.sound("h()=let s=true in 1;");
    Check.sound("t()=let a=1 in true;");
    Check.sound("x()=let a=1 in tab z[i<a] of i;");
    Check.sound("h()=loop s=true while s next s=false give 1;");
    Check.sound("t()=loop a=1 while a<2 next a=2 give true;");
    Check.sound("x()=loop a=1 while a<2 next a=2 give tab z[i<a] of i;");
    Check.faultAt(3, "h()=1+^(let a=1 in true);");
    Check.faultAt(3, "h()=1+^(loop a=1 while true next a=1 give true);");
    Check.faultAt(3, "h()=(let a=1 in tab z[i<a] of i)[0]+^true;");
    Check.faultAt(3, "h()=^(let a=1 in a)[0];");
  }

  private static void boundOnes() {
    wanted(1, "h(n,s,x)=let a=^@ in 1;");
    wanted(2, "h(n,s,x)=let u=^@ in 1;");
    wanted(3, "h(n,s,x)=let z=^@ in 1;");
    wanted(1, "h(n,s,x)=loop a=^@ while true next a=1 give 1;");
    wanted(2, "h(n,s,x)=loop u=^@ while true next u=true give 1;");
    wanted(3, "h(n,s,x)=loop z=^@ while true next z=x give 1;");
    wanted(1, "h(n,s,x)=loop b=1,a=^@ while true next a=1 give 1;");
    wanted(1, "h(n,s,x)=loop a=1 while true next a=^@ give 1;");
    wanted(2, "h(n,s,x)=loop u=s while true next u=^@ give 1;");
    wanted(3, "h(n,s,x)=loop z=x while true next z=^@ give 1;");
    wanted(2, "h(n,s,x)=loop a=1,u=s while true next a=1,u=^@ give 1;");
  }

  private static void sizeCellWhile() {
    wanted(1, "z(n,s,x)=tab w[i<^@] of 1;");
    wanted(1, "z(n,s,x)=tab w[i<1] of ^@;");
    wanted(2, "h(n,s,x)=loop a=1 while ^@ next a=1 give 1;");
    Check.faultAt(3, "x()=tab z[i<1] of ^z;");
    Check.faultAt(3, "x()=tab z[i<1] of ^i<1;");
  }

  private static void namesOfTab() {
    for (char c = 'a'; c <= 'z'; c++) {
      Check.fault("x()=tab " + c + "[k1<1] of 1;", c < 'v' ? 3 : 0, c < 'v' ? 8 : 0);
      Check.fault("x()=tab z1[" + c + "<1] of 1;", c > 'r' ? 3 : 0, c > 'r' ? 11 : 0);
    }
    Check.faultAt(3, "x()=tab ^a[s<true] of true;");
    Check.faultAt(3, "x()=tab z[^s<true] of true;");
  }

  private static void arguments() {
    wanted(1, "h(n,s,x)=g(^@);g(a)=1;");
    wanted(2, "h(n,s,x)=g(^@);g(u)=1;");
    wanted(3, "h(n,s,x)=g(^@);g(z)=1;");
    wanted(1, "g(s,x,u,a)=1;h(n,s,x)=g(s,x,s,^@);");
    wanted(2, "g(a,b,c,u)=1;h(n,s,x)=g(1,2,3,^@);");
    wanted(3, "g(a,z,c,u)=1;h(n,s,x)=g(1,^@,3,s);");
    Check.faultAt(3, "g(a,u)=1;h()=g(^true,1);");
  }
}
