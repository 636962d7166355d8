import java.util.Random;

/** Compares TagFlow with the oracle, on random programs with and without FAULTS. */
public final class OracleTest {
  private static final int ROUNDS = 6000;
  private static final int[] FAULTS = new int[4];
  private static final int[] STATES = new int[5];
  private static final int[] KINDS = new int[5];

  public static void main(String[] args) {
    int rounds = args.length > 0 ? Integer.parseInt(args[0]) : ROUNDS;
    long seed = args.length > 1 ? Long.parseLong(args[1]) : 1;
    Random random = new Random(seed);
    Programs programs = new Programs(random);
    for (int i = 0; i < rounds; i++) {
      compareFaults(programs.noise());
      compareFaults(programs.spoilt());
      compareRuns(programs.program(), random);
    }
    System.out.println("faults " + java.util.Arrays.toString(FAULTS) + ", states "
        + java.util.Arrays.toString(STATES) + ", kinds " + java.util.Arrays.toString(KINDS));
    for (int kind = 0; kind < 4; kind++) {
      Check.due("some tapes have FAULT " + kind, FAULTS[kind] > rounds / 100 ? 1 : 0, 1);
    }
    for (int state = 2; state < 5; state++) {
      Check.due("some RUNS have state " + state, STATES[state] > rounds / 100 ? 1 : 0, 1);
    }
    Check.end();
  }

  private static void compareFaults(String tape) {
    Oracle oracle = new Oracle(tape);
    FAULTS[oracle.faultKind]++;
    Check.fault(tape, oracle.faultKind, oracle.faultPlace);
  }

  private static void compareRuns(String text, Random random) {
    Oracle oracle = new Oracle(text);
    Check.fault(text, oracle.faultKind, oracle.faultPlace);
    TagFlow x = new TagFlow();
    Check.due("compile of " + text, Check.compile(x, text), oracle.functions.size());
    for (int f = 0; f < oracle.functions.size(); f++) {
      long[] given = new long[4];
      for (int i = 0; i < 4; i++) {
        given[i] = random.nextInt(9) - 2;
      }
      boolean started = Check.start(x, f, given);
      Check.due("start of " + f + " of " + text, started ? 1 : 0, oracle.takesNumbers(f) ? 1 : 0);
      if (started) {
        oracle.run(f, given, random);
        compareRun(x, oracle, random, f + " of " + text);
      }
    }
  }

  private static void compareRun(TagFlow x, Oracle oracle, Random random, String text) {
    int fired = 0;
    int before = x.count(1);
    while (fired < oracle.events && before + fired < 5000) {
      int n = 1 + random.nextInt(random.nextBoolean() ? 20 : 1500);
      Check.due("state of " + text, x.state(), 1);
      fired = Math.min(Math.min(fired + n, oracle.events), 5000 - before);
      Check.due("fire of " + text, Check.fire(x, n, random.nextLong()), fired);
    }
    Check.due("count of " + text, x.count(0), fired);
    if (fired == oracle.events) {
      STATES[oracle.state]++;
      Check.due("state of " + text, x.state(), oracle.state);
      int kind = oracle.state == 2 ? oracle.result.kind : 0;
      KINDS[kind]++;
      Check.due("kind of " + text, x.kind(), kind);
      long value = kind == 0 ? Check.NO_SUCH_ELEMENT : oracle.result.number;
      Check.due("value of " + text, Check.value(x), value);
      for (int i = -1; i <= 20; i++) {
        compareCell(x, oracle, i, text);
      }
    }
  }

  private static void compareCell(TagFlow x, Oracle oracle, int i, String text) {
    long kind = Check.NO_SUCH_ELEMENT;
    long number = Check.NO_SUCH_ELEMENT;
    boolean table = oracle.state == 2 && oracle.result.kind == Oracle.TABLE;
    if (table && i >= 0 && i < oracle.result.number) {
      kind = oracle.result.cells[i].kind;
      number = oracle.result.cells[i].number;
    }
    Check.due("cell " + i + " of " + text, Check.cell(x, i, 0), kind);
    Check.due("number of cell " + i + " of " + text, Check.cell(x, i, 1), number);
  }
}
