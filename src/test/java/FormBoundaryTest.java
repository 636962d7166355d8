/** The boundary cases of the PROGRAM's form, and FAULT 1. */
public final class FormBoundaryTest {
  /** A PROGRAM with each form in it, its TOKENS parted by one blank each. */
  private static final String ALL =
      "f ( a , s , x , b ) = let c = - a + 1 in if ! s & c < 2 | false then g ( ) * 3 else x [ b ] ; "
          + "g ( ) = loop k = 0 , m = ( 1 ) while k < 5 next k = k + 1 , m = k % 2 give m / 3 ; "
          + "v ( n ) = tab z [ i < n - 1 ] of f ( i , true , tab y [ j < 2 ] of j , 1 ) ;";

  public static void main(String[] args) {
    Check.sentence("A PROGRAM: 1 to 8 FUNCTIONS", FormBoundaryTest::functions);
    Check.sentence(
        "NAME ( NAME, .. ) = X ;   with 0 to 4 parameters", FormBoundaryTest::parameters);
    Check.sentence("FUNCTIONS and NAMES are two rows of names", FormBoundaryTest::twoRows);
    Check.sentence(
        "a FUNCTION may be called anywhere, also ahead of where it is told, or by itself",
        FormBoundaryTest::calledAnywhere);
    Check.sentence(
        "(1 to 4 NAMES; next binds some of them, each once, at least one)", FormBoundaryTest::loops);
    Check.sentence("the weakest first: | then & (of truths)", FormBoundaryTest::strengths);
    Check.sentence("then at most one of = < between two numbers", FormBoundaryTest::comparisons);
    Check.sentence("then + -; then * / %, each row from the left", FormBoundaryTest::fromTheLeft);
    Check.sentence(
        "then - ahead (of a number) or ! (of a truth), any number of these", FormBoundaryTest::ahead);
    Check.sentence("then [ X ] behind, any number of these", FormBoundaryTest::behind);
    Check.sentence(
        "(let, if, loop reach as far as they can; they stand bare wherever an X is told here, as an "
            + "operand in ( ).)",
        FormBoundaryTest::bare);
    Check.sentence(
        "1 the first TOKEN that can't stand there (or is none: the first character of it",
        FormBoundaryTest::cannotStand);
    Check.sentence("the tape's length, if it ends too early", FormBoundaryTest::endsTooEarly);
    Check.sentence("the fifth parameter", FormBoundaryTest::fifthParameter);
    Check.sentence("the fifth parameter, argument", FormBoundaryTest::fifthArgument);
    Check.sentence("the fifth parameter, argument, NAME of a loop", FormBoundaryTest::fifthOfLoop);
    Check.sentence("the ninth FUNCTION", FormBoundaryTest::ninthFunction);
    Check.sentence(
        "an X that would begin with twenty ( and [ open around it", FormBoundaryTest::twentyOpen);
    Check.sentence("those of calls and tab, too: its first TOKEN", FormBoundaryTest::twentyMixed);
    Check.sentence("of an empty tape 0", FormBoundaryTest::emptyTape);
    Check.end();
  }

  private static String nested(int times, String open, String inner, String close) {
    return open.repeat(times) + inner + close.repeat(times);
  }

  private static String functions(int howMany) {
    StringBuilder text = new StringBuilder();
    for (int i = 0; i < howMany; i++) {
      text.append((char) ('a' + i)).append("(n)=").append(i).append("; ");
    }
    return text.toString();
  }

  private static void functions() {
    for (int i = 1; i <= 8; i++) {
      TagFlow x = new TagFlow();
      Check.due(i + " FUNCTIONS", Check.compile(x, functions(i)), i);
      Check.due("count(2)", x.count(2), i);
      Check.due("start of the last", Check.start(x, i - 1), true);
      Check.due("value of the last", Check.value(x), i - 1);
      Check.due("start behind the last", Check.start(x, i), false);
    }
    Check.fault(functions(9), 1, functions(8).length());
    Check.faultAt(1, "");
  }

  private static void parameters() {
    String[] names = {"a", "b", "c", "d"};
    StringBuilder row = new StringBuilder();
    for (int i = 0; i < 4; i++) {
      row.append(i == 0 ? "" : ",").append(names[i]);
      Check.run("f(" + row + ")=" + names[i] + ";", 0, 2, 1, i + 1, 1, 2, 3, 4);
    }
    Check.run("f()=7;", 0, 2, 1, 7, 1, 2, 3, 4);
    Check.faultAt(1, "f(^,)=1;");
    Check.faultAt(1, "f(a,^)=1;");
    Check.faultAt(1, "f(a,b,c,d,^)=1;");
    Check.faultAt(1, "f^=1;");
    Check.faultAt(1, "f()^1;");
    Check.faultAt(1, "f(a ^b)=1;");
    Check.faultAt(1, "f(a)=1 ^g()=1;");
  }

  private static void twoRows() {
    Check.run("f(f)=f;", 0, 2, 1, 5, 5);
    Check.run("f(g)=g(g);g(f)=f+f;", 2, 2, 1, 10, 5);
    Check.run("f(n)=let f=n+1 in f*g(f);g(g)=g;", 3, 2, 1, 36, 5);
    Check.faultAt(2, "f(n)=^f;");
    Check.faultAt(2, "f(n)=^n(1);");
  }

  private static void calledAnywhere() {
    Check.run("f(n)=g(n);g(n)=h(n)+1;h(n)=n*2;", 4, 2, 1, 11, 5);
    Check.run("f(n)=if n<1 then 0 else n+f(n-1);", 6 * 2 + 5 * 3, 2, 1, 15, 5);
    Check.run("f(n)=if s(n) then 1 else 0;s(n)=if n=0 then true else t(n-1);"
        + "t(n)=if n=0 then false else s(n-1);", 2 + 3 * 4 + 2, 2, 1, 0, 3);
  }

  private static void loops() {
    String[] names = {"a", "b", "c", "d"};
    StringBuilder first = new StringBuilder();
    for (int count = 1; count <= 4; count++) {
      first.append(count == 1 ? "" : ",").append(names[count - 1]).append("=1");
      for (int some = 1; some < 1 << count; some++) {
        StringBuilder next = new StringBuilder();
        for (int i = count - 1; i >= 0; i--) {
          if ((some >> i & 1) == 1) {
            next.append(next.length() == 0 ? "" : ",").append(names[i]).append("=2");
          }
        }
        Check.sound("f()=loop " + first + " while true next " + next + " give 1;");
        Check.sound("f()=loop " + first + " while false next " + next + " give a;");
      }
    }
    Check.faultAt(1, "f()=loop ^while true next a=1 give 1;");
    Check.faultAt(1, "f()=loop a=1 while true next ^give 1;");
    Check.faultAt(1, "f()=loop a=1 while true ^give 1;");
    Check.faultAt(1, "f()=loop a=1,^while true next a=1 give 1;");
    Check.faultAt(1, "f()=loop a=1 while true next a=1,^give 1;");
    Check.faultAt(2, "f()=loop a=1,b=1 while true next a=1,b=1,^a=1 give 1;");
  }

  private static void strengths() {
    Check.run("t()=true|true&false;", 2, 2, 2, 1);
    Check.run("t()=false&true|true;", 2, 2, 2, 1);
    Check.run("t()=(true|true)&false;", 2, 2, 2, 0);
    Check.run("t()=1<2&2<1|1=1;", 5, 2, 2, 1);
    Check.run("t()=1<2+3;", 2, 2, 2, 1);
    Check.run("t()=!false|true;", 2, 2, 2, 1);
    Check.run("t()=!(false|true);", 2, 2, 2, 0);
  }

  private static void comparisons() {
    for (String first : new String[] {"=", "<"}) {
      for (String second : new String[] {"=", "<"}) {
        Check.faultAt(1, "t()=1" + first + "2^" + second + "3;");
        Check.faultAt(1, "t()=1+1" + first + "2*2^" + second + "3;");
        Check.faultAt(1, "t()=true&1" + first + "2^" + second + "3;");
        Check.faultAt(1, "t()=!true|1" + first + "-2^" + second + "3;");
        Check.faultAt(1, "f()=(1" + first + "2^" + second + "3);");
        Check.faultAt(1, "f()=if 1" + first + "2^" + second + "3 then 1 else 2;");
        Check.faultAt(1, "f()=g(1" + first + "2^" + second + "3);");
        Check.sound("t()=1" + first + "2&2" + second + "3|4" + first + "5&6" + second + "7;");
        Check.sound("t()=1" + first + "(if 2" + second + "3 then 4 else 5);");
        Check.faultAt(3, "t()=^(1" + first + "2)" + second + "3;");
        Check.faultAt(3, "t()=1" + first + "^(2" + second + "3);");
      }
    }
    Check.faultAt(1, "t()=1<^=2;");
    Check.faultAt(1, "t()=1=^=2;");
    // The X of a tab ends ahead of a second one, which may stand behind the tab as an operand.
    Check.faultAt(3, "t()=^tab z[i<1] of 1<2<3;");
    Check.faultAt(1, "t()=tab z[i<1] of 1<2<3^<4;");
    Check.faultAt(1, "t()=1<tab z[i<1] of 1<2^<3;");
    Check.faultAt(3, "t()=1<^tab z[i<1] of 1<2&true;");
  }

  private static void fromTheLeft() {
    Check.run("f()=10-3-2;", 2, 2, 1, 5);
    Check.run("f()=10-3+2;", 2, 2, 1, 9);
    Check.run("f()=10+3-2-1;", 3, 2, 1, 10);
    Check.run("f()=100/10/5;", 2, 2, 1, 2);
    Check.run("f()=100/10*5;", 2, 2, 1, 50);
    Check.run("f()=7%4*2;", 2, 2, 1, 6);
    Check.run("f()=7*4%3/1;", 3, 2, 1, 1);
    Check.run("f()=2+3*4-6/2;", 4, 2, 1, 11);
    Check.run("f()=10-(3-2);", 2, 2, 1, 9);
  }

  private static void ahead() {
    Check.run("f(n)=-n;", 1, 2, 1, -5, 5);
    Check.run("f(n)=--n;", 2, 2, 1, 5, 5);
    Check.run("f(n)=" + "-".repeat(301) + "n;", 301, 2, 1, -5, 5);
    Check.run("t()=" + "!".repeat(301) + "true;", 301, 2, 2, 0);
    Check.run("f(n)=1--n;", 2, 2, 1, 6, 5);
    Check.run("f(n)=2*-n;", 2, 2, 1, -10, 5);
    Check.run("f(n)=-n*2-3;", 3, 2, 1, -13, 5);
    Check.run("t()=!!false&!false;", 4, 2, 2, 0);
    Check.faultAt(1, "f(n)=-^;");
    Check.faultAt(1, "f(n)=n-^;");
    Check.faultAt(1, "t(n)=true^!true;");
    Check.faultAt(3, "f(n)=-^!true;");
    Check.faultAt(3, "t(n)=!^-n;");
  }

  private static void behind() {
    Check.run("f(n)=(tab z[i<3] of i+n)[2];", 1 + 3 * 2 + 1, 2, 1, 7, 5);
    Check.run("f(n)=-(tab z[i<3] of i+n)[2];", 1 + 3 * 2 + 2, 2, 1, -7, 5);
    Check.run("f()=x()[1];x()=tab z[i<3] of i*5;", 1 + 1 + 3 * 2 + 1, 2, 1, 5);
    Check.run("f()=let v=x() in v[v[1]];x()=tab z[i<3] of i+1;", 1 + 1 + 3 * 2 + 2, 2, 1, 3);
    Check.faultAt(3, "f(x)=^x[1][2];");
    Check.faultAt(3, "f(x)=^x[1][2][3][4];");
    Check.faultAt(3, "f(x)=1+^x" + "[1]".repeat(150) + ";");
    Check.faultAt(1, "f(x)=x[^];");
    Check.faultAt(1, "f(x)=x[1^;");
    Check.faultAt(1, "f(x)=x[1^,2];");
    Check.faultAt(1, "f(x)=^[1];");
    Check.faultAt(3, "x(n)=tab z[i<3] of ^i[0];");
  }

  private static void bare() {
    Check.run("f()=let a=1 in a+2;", 1, 2, 1, 3);
    Check.run("f()=(let a=1 in a)+2;", 1, 2, 1, 3);
    Check.faultAt(2, "f()=(let a=1 in a)+^a;");
    Check.run("f()=if true then 1 else 2+3;", 1, 2, 1, 1);
    Check.run("f()=(if true then 1 else 2)+3;", 2, 2, 1, 4);
    Check.run("f()=loop a=1 while false next a=1 give a+3;", 2, 2, 1, 4);
    Check.faultAt(2, "f()=(loop a=1 while false next a=1 give a)+^a;");
    Check.run("f()=if true then if false then 1 else 2 else 3;", 2, 2, 1, 2);
    Check.run("f()=if false then 1 else if false then 2 else 3;", 2, 2, 1, 3);
    String[] words = {
      "let a=1 in a", "if true then 1 else 2", "loop a=1 while false next a=2 give a",
    };
    for (String x : words) {
      for (String ahead : new String[] {"1+", "1-", "1*", "1/", "1%", "1<", "1=", "-", "!", "true&", "true|"}) {
        Check.faultAt(1, "f()=" + ahead + "^" + x + ";");
      }
      for (String ahead : new String[] {"1+", "1*", "-", "1%-"}) {
        Check.sound("f()=" + ahead + "(" + x + ");");
      }
      Check.sound("f()=" + x + ";");
      Check.sound("f()=((" + x + "));");
      Check.sound("f(n)=f(" + x + ");");
      Check.sound("f(x)=x[" + x + "];");
      Check.sound("f()=let b=" + x + " in " + x + ";");
      Check.sound("f()=if (" + x + ")=1 then " + x + " else " + x + ";");
      Check.sound("f()=loop b=" + x + ",c=" + x + " while true next c=" + x + ",b=" + x + " give " + x + ";");
      Check.sound("x()=tab z[i<" + x + "] of " + x + ";");
    }
    Check.sound("f()=if if true then true else false then 1 else 2;");
    Check.sound("f()=if let s=true in s then 1 else 2;");
    Check.sound("f()=loop a=1 while if true then true else false next a=1 give 1;");
    Check.faultAt(1, "f()=if true then 1 else 2 ^else 3;");
    Check.faultAt(1, "t()=if true then true else 1<2^<3;");
    Check.faultAt(1, "t()=let a=1 in 1<2^=3;");
    Check.faultAt(1, "t()=loop a=1 while true next a=1 give 1=2^=3;");
  }

  /** A character that is no TOKEN, or a TOKEN that can't stand, wherever a TOKEN begins. */
  private static void cannotStand() {
    Check.sound(ALL);
    for (int i = 0; i <= ALL.length(); i++) {
      if (i == 0 || i == ALL.length() || ALL.charAt(i - 1) == ' ') {
        Check.fault(ALL.substring(0, i) + "? " + ALL.substring(i), 1, i);
        Check.fault(ALL.substring(0, i) + "abcdefg " + ALL.substring(i), 1, i);
        Check.fault(ALL.substring(0, i) + "12345678901 " + ALL.substring(i), 1, i);
        Check.fault(ALL.substring(0, i) + ">", 1, i);
      }
    }
    Check.faultAt(1, "f(n)=n+m+true+^?+>;");
    Check.faultAt(1, "f(n)=n^);?");
    Check.faultAt(1, "f(n)=(n^];");
    Check.faultAt(1, "f(x)=x[1^);");
    Check.faultAt(1, "f(n)=f(n^];");
    Check.faultAt(1, "f(n)=f(n^;");
    Check.faultAt(1, "x()=tab z^(i<1) of 1;");
    Check.faultAt(1, "x()=tab z[i^=1] of 1;");
    Check.faultAt(1, "x()=tab z[i^] of 1;");
    Check.faultAt(1, "x()=tab z[i<^] of 1;");
    Check.faultAt(1, "x()=tab z[i<1^) of 1;");
    Check.faultAt(1, "x()=tab z[i<1]^(1);");
    Check.faultAt(1, "x()=tab z[i<1]of^;");
    Check.faultAt(1, "f()=let a^<1 in 1;");
    Check.faultAt(1, "f()=let a=1^,b=2 in 1;");
    Check.faultAt(1, "f()=loop a^<1 while true next a=1 give 1;");
    Check.faultAt(1, "f()=loop a=1 while true next a^<1 give 1;");
    Check.faultAt(1, "f()=loop a=1^;");
    Check.faultAt(1, "f()=1^,2;");
    Check.faultAt(1, "f()=1^(2);");
    Check.faultAt(1, "f()=(1)^(2);");
    Check.faultAt(1, "f(x)=x[1]^(2);");
    Check.faultAt(1, "f()=g()^(2);");
    Check.faultAt(1, "f()=1 ^if true then 1 else 2;");
    Check.faultAt(1, "f()=1^!true;");
  }

  /** Cut behind any TOKEN but a ; of a FUNCTION, blanks behind it or not. */
  private static void endsTooEarly() {
    for (int i = 1; i < ALL.length(); i++) {
      if (ALL.charAt(i) == ' ' && ALL.charAt(i - 1) != ';') {
        Check.faultAt(1, ALL.substring(0, i));
        Check.faultAt(1, ALL.substring(0, i) + "   ");
      }
    }
    Check.faultAt(1, "f");
    Check.faultAt(1, "f()=1");
    Check.faultAt(1, "f()=1;g");
    Check.faultAt(1, "f()=m+true");
    Check.faultAt(1, "f()=" + "1+".repeat(248));
    Check.faultAt(1, "f()=1" + " ".repeat(495));
    Check.faultAt(1, "f()=" + " ".repeat(495) + "1");
    Check.faultAt(1, "f(n)=" + " ".repeat(494) + "n");
    Check.faultAt(1, "f(n)=" + " ".repeat(491) + "true");
  }

  private static void fifthParameter() {
    Check.sound("f(a,b,c,d)=1;");
    Check.faultAt(1, "f(a,b,c,d,^e)=1;");
    Check.faultAt(1, "f(a,b,c,d,  ^e,g,h)=1;");
    Check.faultAt(1, "f(a,b,c,d,^a)=1;");
    Check.faultAt(1, "f(a,b,c,d,^1)=1;");
    Check.faultAt(1, "f(a,b,c,d,^e?)=1;");
    Check.faultAt(1, "f(n)=1;g(a,a,b,c,^d)=m;");
  }

  private static void fifthArgument() {
    Check.sound("f(a,b,c,d)=f(1,2,3,4);");
    Check.faultAt(1, "f(a,b,c,d)=f(1,2,3,4,^5);");
    Check.faultAt(1, "f(a,b,c,d)=f(1,2,3,4, ^-5);");
    Check.faultAt(1, "f(a,b,c,d)=f(1,2,3,4,^(5),6,7);");
    Check.faultAt(1, "f(a,b,c,d)=f(1,2,3,4,^);");
    Check.faultAt(1, "f(a,b,c,d)=f(1,2,3,4,^if true then 1 else 2);");
    Check.faultAt(1, "f(n)=g(1,2,3,4,^5);");
    Check.faultAt(1, "f(a,b,c,d)=f(f(1,2,3,4),f(1,2,3,4),f(1,2,3,4),f(1,2,3,4,^5));");
    Check.sound("f(a,b,c,d)=f(f(1,2,3,4),f(1,2,3,4),f(1,2,3,4),f(1,2,3,4));");
  }

  private static void fifthOfLoop() {
    String four = "f()=loop a=1,b=1,c=1,d=1";
    Check.sound(four + " while true next a=1 give 1;");
    Check.faultAt(1, four + ",^e=1 while true next a=1 give 1;");
    Check.faultAt(1, four + ", ^a=1 while true next a=1 give 1;");
    Check.faultAt(1, four + ",^e");
    Check.faultAt(1, four + ",^? while");
    Check.faultAt(1, "f()=loop a=loop k=1,l=1,m=1,n=1,^o=1 while true next k=1 give 1;");
    Check.sound("f()=loop a=loop k=1,l=1,m=1,n=1 while true next k=1 give 1,b=1,c=1,d=1 "
        + "while true next a=1 give 1;");
  }

  private static void ninthFunction() {
    String eight = functions(8);
    Check.sound(eight);
    Check.faultAt(1, eight + "^i(n)=1;");
    Check.faultAt(1, eight + "  ^a(n)=1;");
    Check.faultAt(1, eight + "^i");
    Check.faultAt(1, eight + "^;");
    Check.faultAt(1, eight + "^?");
    Check.faultAt(1, eight.replace("0", "true") + "^i(n)=1;");
    Check.faultAt(1, "a(n)=m;" + eight.substring(eight.indexOf("b(")) + "^i(n)=1;j(n)=1;");
  }

  private static void twentyOpen() {
    for (int i = 1; i < 20; i++) {
      Check.run("f(n)=" + nested(i, "(", "n", ")") + ";", 0, 2, 1, 5, 5);
    }
    Check.faultAt(1, "f(n)=" + nested(20, "(", "^n", ")") + ";");
    Check.faultAt(1, "f(n)=" + nested(20, "(", "  ^n", ")") + ";");
    Check.faultAt(1, "f(n)=" + nested(20, "(", "^(n)", ")") + ";");
    Check.faultAt(1, "f(n)=" + nested(20, "(", "^-n", ")") + ";");
    Check.faultAt(1, "f(n)=" + nested(20, "(", "^if true then 1 else 2", ")") + ";");
    Check.faultAt(1, "f(n)=" + "(".repeat(20) + "^");
    Check.faultAt(1, "f(n)=" + "(".repeat(20) + "^?");
    Check.faultAt(1, "f(n)=" + "(".repeat(20) + "^)");
    Check.faultAt(1, "f(n)=" + "(".repeat(20) + "^" + "(".repeat(300));
    Check.faultAt(1, "f(n)=" + nested(19, "(", "n+(^n)", ")") + ";");
    Check.faultAt(1, "f(n)=m+true+" + nested(20, "-(", "^n", ")") + ";");
    Check.sound("f(n)=" + nested(19, "(", "n+n-n*n", ")") + "+" + nested(19, "(", "n", ")") + ";");
    Check.sound("f(n)=" + nested(19, "(", "let a=if true then 1 else 2 in a", ")") + ";");
    Check.sound("f(n)=" + nested(19, "(", "n", ")") + ";g(n)=" + nested(19, "(", "n", ")") + ";");
    TagFlow x = new TagFlow();
    Check.due("open ones", Check.compile(x, "f(n)=" + "(".repeat(19)), Check.ILLEGAL_ARGUMENT);
    Check.due("are gone then", Check.compile(x, "f(n)=" + nested(19, "(", "n", ")") + ";"), 1);
  }

  private static void twentyMixed() {
    String nineteen = "f(n)=" + "(".repeat(19);
    String end = ")".repeat(19) + ";";
    Check.sound("f(n)=" + nested(19, "f(", "n", ")") + ";");
    Check.faultAt(1, "f(n)=" + nested(20, "f(", "^n", ")") + ";");
    Check.sound("f(x)=" + nested(19, "x[", "1", "]") + ";");
    Check.faultAt(1, "f(x)=" + nested(20, "x[", "^1", "]") + ";");
    Check.sound("x()=" + "tab z[i<(".repeat(9) + "tab z[i<1] of 1" + ")[0]] of 1".repeat(9) + ";");
    Check.faultAt(
        1, "x()=" + "tab z[i<(".repeat(9) + "tab z[i<(^1)] of 1" + ")[0]] of 1".repeat(9) + ";");
    Check.faultAt(1, nineteen + "f(^n)" + end);
    Check.faultAt(1, nineteen + "x[ ^1]" + end);
    Check.faultAt(1, nineteen + "tab z[i<^1] of 1" + end);
    Check.sound("f(n)=" + nested(18, "(", "f(1)+(n)+f(n)", ")") + ";");
    Check.sound("f(x)=" + nested(18, "(", "x[1]+f(x)+x[2-1]", ")") + ";");
    Check.sound("f(n)=" + nested(18, "(", "h(1,2,3,g())", ")") + ";g()=1;h(a,b,c,d)=1;");
    Check.sound(nineteen + "g()" + end + "g()=1;");
    Check.sound("x(n)=" + nested(18, "(", "tab z[i<1] of (n)", ")") + ";");
    Check.faultAt(1, "x(n)=" + nested(18, "(", "tab z[i<(^1)] of n", ")") + ";");
    Check.sound("x(n)=tab z[i<1] of " + nested(19, "(", "n", ")") + ";");
    Check.faultAt(1, "x(n)=tab z[i<1] of " + nested(20, "(", "^n", ")") + ";");
    Check.sound("f(n)=" + "f((n))+".repeat(30) + nested(19, "f(", "n", ")") + ";");
    Check.sound("f(x)=" + "x[(1)]+".repeat(30) + nested(19, "x[", "1", "]") + ";");
    Check.faultAt(1, "f(n)=" + nested(10, "f((", "^n", "))") + ";");
    Check.faultAt(1, "f(n)=" + nested(9, "f((", "f(f(^n))", "))") + ";");
  }

  private static void emptyTape() {
    TagFlow x = new TagFlow();
    Check.due("compile", Check.compile(x), Check.ILLEGAL_ARGUMENT);
    Check.due("kind", x.fault(0), 1);
    Check.due("place", x.fault(1), 0);
    Check.due("a program", Check.compile(x, "f()=1;"), 1);
    Check.due("compile", Check.compile(x), Check.ILLEGAL_ARGUMENT);
    Check.due("kind", x.fault(0), 1);
    Check.due("place", x.fault(1), 0);
    Check.due("blanks alone", Check.compile(x, "     "), Check.ILLEGAL_ARGUMENT);
    Check.due("kind", x.fault(0), 1);
    Check.due("place", x.fault(1), 5);
  }
}
