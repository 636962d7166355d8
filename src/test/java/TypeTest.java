/** Promise 2: type. */
public final class TypeTest {
  public static void main(String[] args) {
    order();
    wrongNumbers();
    wrongBytes();
    length();
    Check.end();
  }

  private static void order() {
    TagFlow x = new TagFlow();
    Check.due("highest first", x.type(Check.bytes("f(n)=9-4"), 8) ? 1 : 0, 1);
    Check.due("only the lowest n", x.type(Check.bytes("zzz-2;"), 3) ? 1 : 0, 1);
    Check.due("compile", Check.compile(x), 1);
    Check.start(x, 0, 0);
    Check.fire(x, 9, 0);
    Check.due("9-4-2", Check.value(x), 3);
  }

  private static void wrongNumbers() {
    TagFlow x = new TagFlow();
    int[] wrong = {0, -1, 9, 64, Integer.MIN_VALUE, Integer.MAX_VALUE};
    for (int n : wrong) {
      Check.due("type of n " + n, x.type(Check.bytes("f(n)=n; "), n) ? 1 : 0, 0);
    }
    Check.due("the tape is empty still", Check.compile(x, "f()=1;"), 1);
  }

  private static void wrongBytes() {
    TagFlow x = new TagFlow();
    int[] wrong = {0, 10, 31, 127, 128, 255};
    for (int b : wrong) {
      Check.due("alone: " + b, x.type(b, 1) ? 1 : 0, 0);
      Check.due("lowest: " + b, x.type(Check.bytes("fff") << 8 | b, 4) ? 1 : 0, 0);
      Check.due("highest: " + b, x.type((long) b << 56 | Check.bytes("fffffff"), 8) ? 1 : 0, 0);
      Check.due("above n: " + b, x.type((long) b << 8 | ' ', 1) ? 1 : 0, 1);
    }
    Check.due("32 and 126", x.type(32 << 8 | 126, 2) ? 1 : 0, 1);
    Check.due("compile", Check.compile(x), Check.ILLEGAL_ARGUMENT);
    Check.due("only the blanks stand ahead", x.fault(1), 7);
  }

  private static void length() {
    TagFlow x = new TagFlow();
    Check.type(x, "f()=1;" + " ".repeat(490));
    Check.due("to 501", x.type(Check.bytes("     "), 5) ? 1 : 0, 0);
    Check.due("to 500", x.type(Check.bytes("   ~"), 4) ? 1 : 0, 1);
    Check.due("to 501", x.type(' ', 1) ? 1 : 0, 0);
    Check.due("compile", Check.compile(x), Check.ILLEGAL_ARGUMENT);
    Check.due("the last character", x.fault(1), 499);
    Check.due("the tape is empty", x.type(' ', 1) ? 1 : 0, 1);
  }
}
