/** The boundary cases of the terms up to the PROGRAM: the tape, TOKENS, types of NAMES. */
public final class TokenBoundaryTest {
  private static final String[] WORDS = {
    "let", "in", "if", "then", "else", "loop", "while", "next", "give", "tab", "of", "true", "false",
  };

  public static void main(String[] args) {
    Check.sentence("THE TAPE has at most 500 characters, 32 .. 126.", TokenBoundaryTest::tape);
    Check.sentence("BLANKS part TOKENS", TokenBoundaryTest::blanks);
    Check.sentence("the longest ones (12ab is 12 and ab, letx a NAME;", TokenBoundaryTest::longest);
    Check.sentence("a row of more than 6 letters and digits", TokenBoundaryTest::sevenLetters);
    Check.sentence("or of more than 10 digits, is none", TokenBoundaryTest::elevenDigits);
    Check.sentence(
        "NAMES (a small letter, then small letters or digits; at most 6)", TokenBoundaryTest::names);
    Check.sentence("NUMBERS (1 to 10 digits)", TokenBoundaryTest::numbers);
    Check.sentence("SIGNS ( ) [ ] , ; = < + - * / % & | !", TokenBoundaryTest::characters);
    Check.sentence("WORDS that are no NAMES", TokenBoundaryTest::words);
    Check.sentence(
        "THE TYPE of a NAME is told by its first letter: a .. r a number (a long), s .. u a truth, "
            + "v .. z a table of numbers.",
        TokenBoundaryTest::types);
    Check.end();
  }

  private static void tape() {
    TagFlow x = new TagFlow();
    Check.due("500 characters", Check.compile(x, "f(n)=" + "-".repeat(493) + "n;"), 1);
    Check.due("fault(0)", x.fault(0), 0);
    Check.due("start", Check.start(x, 0, 5), true);
    Check.due("fire", Check.fire(x, 2000, 1), 493);
    Check.due("value", Check.value(x), -5);
    Check.type(x, "f(n)=" + "-".repeat(495));
    Check.due("the 501st", x.type('n', 1), false);
    Check.due("compile", Check.compile(x), Check.ILLEGAL_ARGUMENT);
    Check.due("kind", x.fault(0), 1);
    Check.due("place", x.fault(1), 500);
    Check.due("a new tape", Check.compile(x, "f()=" + " ".repeat(494) + "1;"), 1);
    Check.type(x, " ~");
    Check.due("31", x.type(31, 1), false);
    Check.due("127", x.type(127, 1), false);
    Check.due("compile", Check.compile(x), Check.ILLEGAL_ARGUMENT);
    Check.due("place of the ~", x.fault(1), 1);
  }

  private static void blanks() {
    Check.sound("  f  (  n  )  =  let  a  =  1  in  a  +  n  ;  ");
    Check.sound("f(n)=let a=1in a;");
    Check.sound("f(n)=if true then 1else 2;");
    Check.sound("f(n)=let a=(1)in(a);");
    Check.faultAt(1, "f(n)=1 ^2;");
    Check.faultAt(1, "f(n)=n ^n;");
    Check.faultAt(1, "f(n)=n ^1;");
    Check.faultAt(2, "f(n)=^n1;");
    Check.faultAt(1, "f(n)=in1 ^1;");
    Check.faultAt(1, "f(n)=le ^t a=1 in a;");
    Check.faultAt(1, "f(n)=let a=1 ^i n a;");
    Check.faultAt(2, "f(n)=^leta;");
    Check.faultAt(2, "t(n)=^leta=1;");
    Check.run("f()=1 - 2;", 1, 2, 1, -1);
    Check.run("f()=1 - - 2;", 2, 2, 1, 3);
  }

  private static void longest() {
    Check.faultAt(1, "f(ab)=12^ab;");
    Check.faultAt(1, "f(ab)=12^ab+1;");
    Check.faultAt(1, "f(n)=1^n;");
    Check.run("f(letx)=letx;", 0, 2, 1, 5, 5);
    Check.run("f(if1)=if1;", 0, 2, 1, 5, 5);
    Check.run("f(of0)=of0;", 0, 2, 1, 5, 5);
    Check.faultAt(1, "f(n)=letx=1 ^in 1;");
    Check.run("f(a,ab)=ab;", 0, 2, 1, 7, 5, 7);
    Check.run("f(ab,a)=ab;", 0, 2, 1, 5, 5, 7);
    Check.run("f()=12;", 0, 2, 1, 12);
  }

  private static void sevenLetters() {
    Check.sound("abcdef(ghijkl)=ghijkl;");
    Check.sound("a23456(b98765)=b98765;");
    Check.faultAt(1, "^abcdefg()=1;");
    Check.faultAt(1, "^a234567()=1;");
    Check.faultAt(1, "f(^abcdefg)=1;");
    Check.faultAt(1, "f(abcdef)=^abcdefg;");
    Check.faultAt(1, "f(abcdef)=abcdef+^abcdef1;");
    Check.faultAt(1, "f()=^falsely;");
    Check.faultAt(1, "f()=1 ^whileab;");
    Check.faultAt(1, "f()=^" + "a".repeat(400) + ";");
    Check.faultAt(1, "f()=f()+^abcdefg(1);");
    Check.faultAt(1, "f(n)=n+123^abcdefg;");
    Check.faultAt(1, "f(n)=1234567^a;");
    Check.faultAt(1, "f(n)=123456^a+1;");
    Check.faultAt(2, "f(n)=^abcdef(1);");
  }

  private static void elevenDigits() {
    Check.sound("f()=1234567890;");
    Check.faultAt(1, "f()=^12345678901;");
    Check.faultAt(1, "f()=^00000000001;");
    Check.faultAt(1, "f()=1+^12345678901+1;");
    Check.faultAt(1, "f()=^12345678901a;");
    Check.faultAt(1, "f()=1234567890^a;");
    Check.faultAt(1, "f()=1234567890 ^1;");
    Check.faultAt(1, "f()=^" + "9".repeat(490) + ";");
    Check.faultAt(1, "f()=^18446744073709551617;");
  }

  private static void names() {
    for (int length = 1; length <= 6; length++) {
      String letters = "nopqra".substring(0, length);
      String digits = "n90817".substring(0, length);
      Check.run("f(" + letters + ")=" + letters + ";", 0, 2, 1, 5, 5);
      Check.run(letters + "(" + digits + ")=" + digits + ";", 0, 2, 1, 5, 5);
    }
    Check.faultAt(1, "f(^1)=1;");
    Check.faultAt(1, "f(^1a)=1;");
    Check.faultAt(1, "f(^A)=1;");
    Check.faultAt(1, "f(a^A)=1;");
    Check.faultAt(1, "f(a^_b)=1;");
    Check.faultAt(1, "^1f()=1;");
    Check.faultAt(2, "f(abcdef)=^abcdeg;");
    Check.faultAt(2, "f(abcdef)=^abcde;");
    Check.faultAt(2, "f(abcdef)=^bbcdef;");
    Check.faultAt(2, "f(a0)=^a;");
    Check.faultAt(2, "f(a0)=^a00;");
  }

  private static void numbers() {
    long value = 0;
    for (int digits = 1; digits <= 10; digits++) {
      value = value * 10 + 9;
      Check.run("f()=" + value + ";", 0, 2, 1, value);
      Check.run("f()=" + "0".repeat(digits) + ";", 0, 2, 1, 0);
    }
    Check.run("f()=0000000012;", 0, 2, 1, 12);
    Check.run("f()=2147483648;", 0, 2, 1, 2147483648L);
    Check.run("f()=4294967297;", 0, 2, 1, 4294967297L);
  }

  /** Each character alone as the X of a FUNCTION of n. */
  private static void characters() {
    for (char c = 32; c <= 126; c++) {
      String text = "f(n)=" + c + ";";
      if (c == 'n' || (c >= '0' && c <= '9')) {
        Check.sound(text);
      } else if (c >= 'a' && c <= 'z') {
        Check.fault(text, 2, 5);
      } else {
        // A blank and what may begin an X can stand there, the ; behind it can not.
        Check.fault(text, 1, " (-!".indexOf(c) >= 0 ? 6 : 5);
      }
    }
    Check.sound("t(x,n)=!(x[f(1,2)+1-2*3/4%5]<n)&1=1|true;f(a,b)=a;");
    String others = "\"#$'.:>?@ABCXYZ\\_`{}~";
    for (char c : others.toCharArray()) {
      Check.fault("f(n)=n" + c + "1;", 1, 6);
      Check.fault("f(n)=n;" + c, 1, 7);
      Check.fault(c + "f(n)=n;", 1, 0);
    }
    Check.fault("f(n)=n^1;", 1, 6);
  }

  private static void words() {
    for (String word : WORDS) {
      Check.faultAt(1, "^" + word + "(n)=n;");
      Check.faultAt(1, "f(^" + word + ")=1;");
      Check.faultAt(1, "f(n,^" + word + ")=1;");
      Check.faultAt(1, "f()=let ^" + word + "=1 in 1;");
      Check.faultAt(1, "f()=loop ^" + word + "=1 while true next a=1 give 1;");
      Check.faultAt(1, "f()=loop a=1 while true next ^" + word + "=1 give 1;");
      Check.faultAt(1, "x()=tab ^" + word + "[i<1] of 1;");
      Check.faultAt(1, "x()=tab z[^" + word + "<1] of 1;");
      Check.faultAt(1, "f(n)=n ^" + word + ";");
      Check.sound("f(" + word + "1)=1;");
      Check.sound("f(n)=n;" + word + "1(" + word + "1)=" + word + "1;");
    }
    for (String word : new String[] {"in", "then", "else", "while", "next", "give", "of"}) {
      Check.faultAt(1, "f()=^" + word + ";");
      Check.faultAt(1, "f()=^" + word + "();");
    }
    Check.faultAt(1, "t()=true^();");
    Check.faultAt(1, "t()=false^(1);");
  }

  private static void types() {
    for (char c = 'a'; c <= 'z'; c++) {
      int type = c <= 'r' ? 1 : c <= 'u' ? 2 : 3;
      for (String tail : new String[] {"", "a", "s", "z", "0", "szasz"}) {
        String name = c + tail;
        Check.fault(name + "()=1;", type == 1 ? 0 : 3, type == 1 ? 0 : name.length() + 3);
        Check.fault(name + "()=true;", type == 2 ? 0 : 3, type == 2 ? 0 : name.length() + 3);
        Check.fault(name + "(xy)=xy;", type == 3 ? 0 : 3, type == 3 ? 0 : name.length() + 5);
        TagFlow x = Check.program("f(" + name + ")=7;");
        Check.due("start of a FUNCTION of " + name, Check.start(x, 0, 5), type == 1);
        Check.fault("f(" + name + ")=" + name + ";", type == 1 ? 0 : 3, type == 1 ? 0 : name.length() + 4);
      }
    }
    Check.run("a(r)=r;", 0, 2, 1, Long.MIN_VALUE, Long.MIN_VALUE);
    Check.run("r(a)=a;", 0, 2, 1, Long.MAX_VALUE, Long.MAX_VALUE);
  }
}
