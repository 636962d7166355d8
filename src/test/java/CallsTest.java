import java.util.Random;

/** Long rows of calls in any order on one object, each answer compared with those of a model. */
public final class CallsTest {
  private static final int OBJECTS = 400;
  private static final int CALLS = 512;
  private static final String[] TEXTS = {
    "f(n)=if n<2 then n else f(n-1)+f(n-2);",
    "f(n)=f(n);g(n,a,b,c)=n*a-b*c;h()=7;s(a,b)=a<b;",
    "x(n)=tab z[i<n] of if i=2 then z[i] else 10/i;f(n)=let w=x(n) in w[2]+w[0];t(x)=x[0]<1;",
    "f(n)=loop k=0,m=1 while k<n next k=k+1,m=m*2 give m;",
  };
  private static final int[] STATES = new int[5];

  private final Random random;
  private final Programs programs;
  private final TagFlow x = new TagFlow();
  private final Model model = new Model();
  /** So many calls go into typing else that hardly an object spends all its EVENTS. */
  private final boolean rarelyTypes;
  private int calls;

  private CallsTest(Random random) {
    this.random = random;
    this.programs = new Programs(random);
    this.rarelyTypes = random.nextBoolean();
  }

  public static void main(String[] args) {
    int objects = args.length > 0 ? Integer.parseInt(args[0]) : OBJECTS;
    long seed = args.length > 1 ? Long.parseLong(args[1]) : 1;
    Random random = new Random(seed);
    int spent = 0;
    for (int i = 0; i < objects; i++) {
      CallsTest test = new CallsTest(random);
      test.callAll();
      spent += test.model.eventsInAll == 5000 ? 1 : 0;
    }
    System.out.println("states " + java.util.Arrays.toString(STATES) + ", spent " + spent);
    for (int state = 0; state < 5; state++) {
      Check.due("some calls are in state " + state, STATES[state] > 0, true);
    }
    Check.due("some objects have no EVENTS left", spent > 0, true);
    Check.end();
  }

  private void callAll() {
    while (calls < CALLS) {
      STATES[model.state()]++;
      boolean mayType = !rarelyTypes || random.nextInt(8) == 0;
      switch (mayType ? random.nextInt(12) : 2 + random.nextInt(10)) {
        case 0:
          type();
          break;
        case 1:
          compile();
          break;
        case 2:
        case 3:
        case 4:
          start();
          break;
        case 5:
        case 6:
        case 7:
          fire();
          break;
        default:
          ask();
          break;
      }
    }
  }

  private void due(String call, long got, long want) {
    calls++;
    Check.due("call " + calls + ", " + call, got, want);
  }

  private int mostly(int least, int most) {
    return random.nextInt(8) == 0 ? random.nextInt() : least + random.nextInt(most - least + 1);
  }

  private String anyText() {
    switch (random.nextInt(6)) {
      case 0:
        return programs.spoilt();
      case 1:
        return programs.noise();
      case 2:
        return programs.program();
      default:
        return TEXTS[random.nextInt(TEXTS.length)];
    }
  }

  /** A whole text, most times, so that some tapes have no FAULT. */
  private void type() {
    if (random.nextInt(4) == 0) {
      long word = random.nextLong() & 0x7f7f7f7f7f7f7f7fL;
      int n = random.nextInt(12) - 1;
      due("type " + word + ", " + n, x.type(word, n) ? 1 : 0, model.type(word, n) ? 1 : 0);
      return;
    }
    String text = anyText();
    for (int from = 0; from < text.length() && calls < CALLS; from += 8) {
      String part = text.substring(from, Math.min(text.length(), from + 8));
      long word = Check.bytes(part);
      int n = part.length();
      due("type " + part, x.type(word, n) ? 1 : 0, model.type(word, n) ? 1 : 0);
    }
    if (random.nextInt(4) > 0 && calls < CALLS) {
      compile();
    }
  }

  private void compile() {
    String tape = model.tape.toString();
    due("compile of " + tape, Check.compile(x), model.compile());
  }

  private void start() {
    int n = mostly(-1, 4);
    long[] given = {random.nextInt(25) - 2, random.nextInt(9) - 2, random.nextLong(), 3};
    due("start " + n, Check.start(x, n, given) ? 1 : 0, model.start(n, given, random) ? 1 : 0);
  }

  private void fire() {
    int n = random.nextBoolean() ? mostly(1, 30) : mostly(-1, 2002);
    due("fire " + n, Check.fire(x, n, random.nextLong()), model.fire(n));
  }

  private void ask() {
    int what = mostly(-1, 4);
    switch (random.nextInt(6)) {
      case 0:
        due("fault " + what, x.fault(what), model.fault(what));
        break;
      case 1:
        due("state", x.state(), model.state());
        break;
      case 2:
        due("kind", x.kind(), model.kind());
        break;
      case 3:
        due("value", Check.value(x), model.value());
        break;
      case 4:
        int i = mostly(-1, 21);
        due("cell " + i + ", " + what, Check.cell(x, i, what), model.cell(i, what));
        break;
      default:
        due("count " + what, x.count(what), model.count(what));
        break;
    }
  }

  /** The promises told a second time, over what the oracle knows of tapes and RUNS. */
  private static final class Model {
    private final StringBuilder tape = new StringBuilder();
    private Oracle program;
    private int faultKind;
    private int faultPlace;
    private boolean begun;
    private int fired;
    private int eventsInAll;
    private int runs;

    boolean type(long word, int n) {
      if (n < 1 || n > 8 || tape.length() + n > 500) {
        return false;
      }
      StringBuilder more = new StringBuilder();
      for (int i = n - 1; i >= 0; i--) {
        more.append((char) (word >> 8 * i & 255));
      }
      if (!more.chars().allMatch(c -> c >= 32 && c <= 126)) {
        return false;
      }
      tape.append(more);
      return true;
    }

    long compile() {
      Oracle oracle = new Oracle(tape.toString());
      tape.setLength(0);
      faultKind = oracle.faultKind;
      faultPlace = oracle.faultPlace;
      if (faultKind != 0) {
        return Check.ILLEGAL_ARGUMENT;
      }
      program = oracle;
      begun = false;
      return count(2);
    }

    int fault(int what) {
      return what == 0 ? faultKind : what == 1 ? faultPlace : TagFlow.NONE;
    }

    boolean start(int n, long[] given, Random order) {
      if (n < 0 || n >= count(2) || !program.takesNumbers(n)) {
        return false;
      }
      program.run(n, given, order);
      begun = true;
      fired = 0;
      runs++;
      return true;
    }

    long fire(int n) {
      if (state() != 1) {
        return Check.ILLEGAL_STATE;
      }
      if (n < 1 || n > 2000) {
        return Check.ILLEGAL_ARGUMENT;
      }
      if (eventsInAll == 5000) {
        return Check.ARITHMETIC;
      }
      int more = Math.min(n, Math.min(5000 - eventsInAll, program.events - fired));
      fired += more;
      eventsInAll += more;
      return fired;
    }

    int state() {
      if (!begun) {
        return 0;
      }
      return fired < program.events ? 1 : program.state;
    }

    int kind() {
      return state() == 2 ? program.result.kind : 0;
    }

    long value() {
      return state() == 2 ? program.result.number : Check.NO_SUCH_ELEMENT;
    }

    long cell(int i, int what) {
      boolean none = kind() != Oracle.TABLE || i < 0 || i >= value();
      if (none || what < 0 || what > 1) {
        return Check.NO_SUCH_ELEMENT;
      }
      Oracle.Later cell = program.result.cells[i];
      return what == 0 ? cell.kind : cell.number;
    }

    int count(int what) {
      switch (what) {
        case 0:
          return begun ? fired : 0;
        case 1:
          return eventsInAll;
        case 2:
          return program == null ? 0 : program.functions.size();
        case 3:
          return runs;
        default:
          return TagFlow.NONE;
      }
    }
  }
}
