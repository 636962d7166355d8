import java.util.ArrayList;
import java.util.HashMap;
import java.util.List;
import java.util.Map;
import java.util.Random;
import java.util.function.BiFunction;
import java.util.function.Consumer;

/** The document told a second time, by recursion and futures, to compare TagFlow with. */
final class Oracle {
  private static final List<String> WORDS = List.of(
      "let", "in", "if", "then", "else", "loop", "while", "next", "give", "tab", "of", "true",
      "false");
  static final int NUMBER = 1;
  static final int TRUTH = 2;
  static final int TABLE = 3;
  static final int ERROR = 4;

  int faultKind;
  int faultPlace;
  final List<Function> functions = new ArrayList<>();

  private record Token(String text, int place, char sort) {}

  private static final class FormFault extends RuntimeException {
    private static final long serialVersionUID = 1;
    final int place;

    FormFault(int place) {
      super(null, null, false, false);
      this.place = place;
    }
  }

  static final class Function {
    String name;
    final List<String> parameters = new ArrayList<>();
    Code body;
  }

  /** A value that may still come. */
  static final class Later {
    int kind;
    long number;
    Later[] cells;
    private final List<Consumer<Later>> waiting = new ArrayList<>();

    void then(Consumer<Later> what) {
      if (kind != 0) {
        what.accept(this);
      } else {
        waiting.add(what);
      }
    }

    void set(int newKind, long newNumber, Later[] newCells) {
      if (kind != 0) {
        throw new AssertionError("set twice");
      }
      kind = newKind;
      number = newNumber;
      cells = newCells;
      waiting.forEach(w -> w.accept(this));
    }

    void same(Later other) {
      other.then(o -> set(o.kind, o.number, o.cells));
    }
  }

  interface Code {
    Later enter(Map<String, Later> names);
  }

  private record X(int type, int place, Code code) {}

  // Reading.

  private final List<Token> tokens = new ArrayList<>();
  private final List<int[]> faults = new ArrayList<>();
  private final List<Runnable> callChecks = new ArrayList<>();
  private int at;
  private int open;

  Oracle(String tape) {
    try {
      tokenize(tape);
      readProgram();
      callChecks.forEach(Runnable::run);
      for (int[] f : faults) {
        boolean first = faultKind == 0 || f[1] < faultPlace;
        if (first || (f[1] == faultPlace && f[0] < faultKind)) {
          faultKind = f[0];
          faultPlace = f[1];
        }
      }
    } catch (FormFault e) {
      faultKind = 1;
      faultPlace = e.place;
    }
  }

  private void tokenize(String tape) {
    java.util.regex.Matcher m =
        java.util.regex.Pattern.compile("[a-z][a-z0-9]*|[0-9]+|[^ ]").matcher(tape);
    while (m.find()) {
      String t = m.group();
      char c = t.charAt(0);
      char sort;
      if (c >= 'a' && c <= 'z') {
        sort = t.length() > 6 ? '?' : WORDS.contains(t) ? 'w' : 'n';
      } else if (c >= '0' && c <= '9') {
        sort = t.length() > 10 ? '?' : '9';
      } else {
        sort = "()[],;=<+-*/%&|!".indexOf(c) >= 0 ? 's' : '?';
      }
      tokens.add(new Token(t, m.start(), sort));
    }
    tokens.add(new Token("", tape.length(), 'e'));
  }

  private Token here() {
    return tokens.get(at);
  }

  private boolean is(String text) {
    return here().sort != '?' && here().text.equals(text);
  }

  private FormFault form() {
    return new FormFault(here().place);
  }

  private void take(String text) {
    if (!is(text)) {
      throw form();
    }
    at++;
  }

  private Token name() {
    if (here().sort != 'n') {
      throw form();
    }
    return tokens.get(at++);
  }

  private static int typeOf(String name) {
    char c = name.charAt(0);
    return c < 's' ? NUMBER : c < 'v' ? TRUTH : TABLE;
  }

  private void fault(int kind, int place) {
    faults.add(new int[] {kind, place});
  }

  private void want(X x, int type) {
    if (x.type != type) {
      fault(3, x.place);
    }
  }

  private Function find(String name) {
    for (Function f : functions) {
      if (f.name.equals(name)) {
        return f;
      }
    }
    return null;
  }

  private void readProgram() {
    do {
      if (functions.size() == 8) {
        throw form();
      }
      readFunction();
    } while (here().sort != 'e');
  }

  private void readFunction() {
    Token name = name();
    if (find(name.text) != null) {
      fault(2, name.place);
    }
    Function f = new Function();
    f.name = name.text;
    functions.add(f);
    take("(");
    List<String> scope = new ArrayList<>();
    if (!is(")")) {
      do {
        if (f.parameters.size() == 4) {
          throw form();
        }
        Token p = name();
        if (scope.contains(p.text)) {
          fault(2, p.place);
        }
        f.parameters.add(p.text);
        scope.add(p.text);
      } while (comma());
    }
    take(")");
    take("=");
    X body = readX(scope);
    want(body, typeOf(f.name));
    f.body = body.code;
    take(";");
  }

  private boolean comma() {
    if (is(",")) {
      at++;
      return true;
    }
    return false;
  }

  private static List<String> with(List<String> scope, String... more) {
    List<String> all = new ArrayList<>(scope);
    all.addAll(List.of(more));
    return all;
  }

  private X readX(List<String> scope) {
    if (open >= 20) {
      throw form();
    }
    if (is("let")) {
      return readLet(scope);
    }
    if (is("if")) {
      return readIf(scope);
    }
    if (is("loop")) {
      return readLoop(scope);
    }
    return readBinary(scope, 0);
  }

  private X readLet(List<String> scope) {
    int place = here().place;
    take("let");
    Token name = name();
    if (scope.contains(name.text)) {
      fault(2, name.place);
    }
    take("=");
    X value = readX(scope);
    want(value, typeOf(name.text));
    take("in");
    X body = readX(with(scope, name.text));
    return new X(body.type, place, names -> {
      Map<String, Later> inner = new HashMap<>(names);
      inner.put(name.text, value.code.enter(names));
      return body.code.enter(inner);
    });
  }

  private X readIf(List<String> scope) {
    int place = here().place;
    take("if");
    X test = readX(scope);
    want(test, TRUTH);
    take("then");
    X yes = readX(scope);
    take("else");
    X no = readX(scope);
    want(no, yes.type);
    return new X(yes.type, place, names -> {
      Later result = new Later();
      test.code.enter(names).then(t -> event(() -> {
        if (t.kind == ERROR) {
          result.same(t);
        } else {
          result.same((t.number == 1 ? yes : no).code.enter(names));
        }
      }));
      return result;
    });
  }

  private X readLoop(List<String> scope) {
    int place = here().place;
    take("loop");
    List<String> bound = new ArrayList<>();
    List<X> first = new ArrayList<>();
    do {
      if (bound.size() == 4) {
        throw form();
      }
      Token name = name();
      if (scope.contains(name.text) || bound.contains(name.text)) {
        fault(2, name.place);
      }
      bound.add(name.text);
      take("=");
      X x = readX(scope);
      want(x, typeOf(name.text));
      first.add(x);
    } while (comma());
    List<String> inner = with(scope, bound.toArray(new String[0]));
    take("while");
    X test = readX(inner);
    want(test, TRUTH);
    take("next");
    Map<String, X> next = new HashMap<>();
    do {
      Token name = name();
      if (!bound.contains(name.text) || next.containsKey(name.text)) {
        fault(2, name.place);
      }
      take("=");
      X x = readX(inner);
      want(x, typeOf(name.text));
      next.put(name.text, x);
    } while (comma());
    take("give");
    X give = readX(inner);
    return new X(give.type, place, names -> {
      Map<String, Later> round = new HashMap<>(names);
      for (int i = 0; i < bound.size(); i++) {
        round.put(bound.get(i), first.get(i).code.enter(names));
      }
      Later result = new Later();
      round(round, test, next, give, result);
      return result;
    });
  }

  private void round(Map<String, Later> names, X test, Map<String, X> next, X give, Later result) {
    test.code.enter(names).then(t -> event(() -> {
      if (t.kind == ERROR) {
        result.same(t);
      } else if (t.number == 0) {
        result.same(give.code.enter(names));
      } else {
        Map<String, Later> after = new HashMap<>(names);
        next.forEach((name, x) -> after.put(name, x.code.enter(names)));
        round(after, test, next, give, result);
      }
    }));
  }

  private static final String[][] ROWS = {{"|"}, {"&"}, {"=", "<"}, {"+", "-"}, {"*", "/", "%"}};

  private X readBinary(List<String> scope, int row) {
    if (row == ROWS.length) {
      return readAhead(scope);
    }
    X x = readBinary(scope, row + 1);
    while (here().sort == 's' && List.of(ROWS[row]).contains(here().text)) {
      String sign = here().text;
      at++;
      X left = x;
      X right = readBinary(scope, row + 1);
      int wanted = row < 2 ? TRUTH : NUMBER;
      int type = row < 3 ? TRUTH : NUMBER;
      want(left, wanted);
      want(right, wanted);
      x = new X(type, left.place, strict(List.of(left, right), (a, b) -> operate(sign, type, a, b)));
      if (row == 2) {
        break;
      }
    }
    return x;
  }

  private static long[] operate(String sign, int type, Later left, Later right) {
    long a = left.number;
    long b = right.number;
    switch (sign) {
      case "|": return new long[] {type, a + b > 0 ? 1 : 0};
      case "&": return new long[] {type, a + b > 1 ? 1 : 0};
      case "=": return new long[] {type, a == b ? 1 : 0};
      case "<": return new long[] {type, a < b ? 1 : 0};
      case "+": return new long[] {type, a + b};
      case "-": return new long[] {type, a - b};
      case "*": return new long[] {type, a * b};
      case "/": return b == 0 ? new long[] {ERROR, 1} : new long[] {type, a / b};
      default: return b == 0 ? new long[] {ERROR, 1} : new long[] {type, a % b};
    }
  }

  /** An operator that waits for all its operands; one operand is told as both. */
  private Code strict(List<X> operands, BiFunction<Later, Later, long[]> what) {
    return names -> {
      Later result = new Later();
      Later a = operands.get(0).code.enter(names);
      Later b = operands.size() == 1 ? a : operands.get(1).code.enter(names);
      a.then(x -> b.then(y -> event(() -> {
        long[] r = error(x, y);
        r = r == null ? what.apply(x, y) : r;
        result.set((int) r[0], r[1], null);
      })));
      return result;
    };
  }

  private static long[] error(Later x, Later y) {
    long e = Math.min(x.kind == ERROR ? x.number : 9, y.kind == ERROR ? y.number : 9);
    return e == 9 ? null : new long[] {ERROR, e};
  }

  private X readAhead(List<String> scope) {
    int place = here().place;
    if (is("-")) {
      at++;
      X x = readAhead(scope);
      want(x, NUMBER);
      return new X(NUMBER, place, strict(List.of(x), (a, b) -> new long[] {NUMBER, -a.number}));
    }
    if (is("!")) {
      at++;
      X x = readAhead(scope);
      want(x, TRUTH);
      return new X(TRUTH, place, strict(List.of(x), (a, b) -> new long[] {TRUTH, 1 - a.number}));
    }
    X x = readAtom(scope);
    while (is("[")) {
      at++;
      open++;
      X table = x;
      X index = readX(scope);
      open--;
      take("]");
      want(table, TABLE);
      want(index, NUMBER);
      x = new X(NUMBER, table.place, names -> element(table, index, names));
    }
    return x;
  }

  private Later element(X table, X index, Map<String, Later> names) {
    Later result = new Later();
    Later t = table.code.enter(names);
    Later i = index.code.enter(names);
    t.then(x -> i.then(y -> {
      long[] e = error(x, y);
      if (e == null && (y.number < 0 || y.number >= x.cells.length)) {
        e = new long[] {ERROR, 2};
      }
      if (e == null) {
        x.cells[(int) y.number].then(c -> event(() -> result.same(c)));
      } else {
        long[] r = e;
        event(() -> result.set((int) r[0], r[1], null));
      }
    }));
    return result;
  }

  private X readAtom(List<String> scope) {
    Token t = here();
    if (t.sort == '9') {
      at++;
      return new X(NUMBER, t.place, names -> constant(NUMBER, Long.parseLong(t.text)));
    }
    if (is("true") || is("false")) {
      at++;
      return new X(TRUTH, t.place, names -> constant(TRUTH, t.text.equals("true") ? 1 : 0));
    }
    if (is("(")) {
      at++;
      open++;
      X x = readX(scope);
      open--;
      take(")");
      return new X(x.type, t.place, x.code);
    }
    if (is("tab")) {
      return readTab(scope);
    }
    if (t.sort == 'n' && tokens.get(at + 1).text.equals("(")) {
      return readCall(scope);
    }
    name();
    if (!scope.contains(t.text)) {
      fault(2, t.place);
    }
    return new X(typeOf(t.text), t.place, names -> names.get(t.text));
  }

  private static Later constant(int kind, long number) {
    Later x = new Later();
    x.set(kind, number, null);
    return x;
  }

  private X readCall(List<String> scope) {
    Token name = name();
    take("(");
    List<X> given = new ArrayList<>();
    if (!is(")")) {
      open++;
      do {
        if (given.size() == 4) {
          throw form();
        }
        given.add(readX(scope));
      } while (comma());
      open--;
    }
    take(")");
    callChecks.add(() -> {
      Function f = find(name.text);
      if (f == null || f.parameters.size() != given.size()) {
        fault(2, name.place);
        return;
      }
      for (int i = 0; i < given.size(); i++) {
        want(given.get(i), typeOf(f.parameters.get(i)));
      }
    });
    return new X(typeOf(name.text), name.place, names -> {
      Function f = find(name.text);
      Map<String, Later> inner = new HashMap<>();
      for (int i = 0; i < given.size(); i++) {
        inner.put(f.parameters.get(i), given.get(i).code.enter(names));
      }
      Later result = new Later();
      event(() -> result.same(f.body.enter(inner)));
      return result;
    });
  }

  private X readTab(List<String> scope) {
    int place = here().place;
    take("tab");
    Token table = name();
    if (scope.contains(table.text)) {
      fault(2, table.place);
    }
    if (typeOf(table.text) != TABLE) {
      fault(3, table.place);
    }
    take("[");
    Token index = name();
    if (scope.contains(index.text) || index.text.equals(table.text)) {
      fault(2, index.place);
    }
    if (typeOf(index.text) != NUMBER) {
      fault(3, index.place);
    }
    take("<");
    open++;
    X size = readX(scope);
    open--;
    want(size, NUMBER);
    take("]");
    take("of");
    X cell = readX(with(scope, table.text, index.text));
    want(cell, NUMBER);
    return new X(TABLE, place, names -> {
      Later result = new Later();
      size.code.enter(names).then(n -> event(() -> {
        if (n.kind == ERROR) {
          result.same(n);
        } else if (n.number < 0 || n.number > 20) {
          result.set(ERROR, 3, null);
        } else {
          fill(result, (int) n.number, table.text, index.text, cell, names);
        }
      }));
      return result;
    });
  }

  private void fill(
      Later result, int n, String table, String index, X cell, Map<String, Later> names) {
    Later[] cells = new Later[n];
    for (int i = 0; i < n; i++) {
      cells[i] = new Later();
    }
    result.set(TABLE, n, cells);
    for (int i = 0; i < n; i++) {
      int k = i;
      event(() -> {
        Map<String, Later> inner = new HashMap<>(names);
        inner.put(table, result);
        inner.put(index, constant(NUMBER, k));
        cells[k].same(cell.code.enter(inner));
      });
    }
  }

  // Running.

  private final List<Runnable> ready = new ArrayList<>();
  int events;
  int state;
  Later result;

  private void event(Runnable what) {
    ready.add(what);
  }

  /** Runs a FUNCTION to its end, or to 1000 EVENTS. */
  void run(int function, long[] given, Random order) {
    ready.clear();
    events = 0;
    Function f = functions.get(function);
    Map<String, Later> names = new HashMap<>();
    for (int i = 0; i < f.parameters.size(); i++) {
      names.put(f.parameters.get(i), constant(NUMBER, given[i]));
    }
    result = f.body.enter(names);
    while (!ready.isEmpty() && events < 1000) {
      ready.remove(order.nextInt(ready.size())).run();
      events++;
    }
    state = !ready.isEmpty() ? 4 : result.kind != 0 ? 2 : 3;
  }

  boolean takesNumbers(int function) {
    return functions.get(function).parameters.stream().allMatch(p -> typeOf(p) == NUMBER);
  }
}
