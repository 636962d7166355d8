import java.util.ArrayList;
import java.util.List;
import java.util.Random;

/** Random programs without a FAULT, and tapes that differ from them by little. */
final class Programs {
  private static final String NUMBERS = "abcdefghijklmnopqr";
  private static final String TRUTHS = "stu";
  private static final String TABLES = "vwxyz";
  private static final String[] PIECES = {
    "let ", " in ", "if ", " then ", " else ", "loop ", " while ", " next ", " give ", "tab ", " of ",
    "true", "false", "(", ")", "[", "]", ",", ";", "=", "<", "+", "-", "*", "/", "%", "&", "|", "!",
    "a", "b", "n", "s", "t", "v", "z", "f0", "s1", "0", "1", "12345678901", "abcdefg", "A", ">", " ",
    "f0(", "let a=", "loop a=", "tab z[i<", "((((((((((((((((((((",
  };

  private final Random random;
  private final List<String> functionNames = new ArrayList<>();
  private final List<String> functionParameters = new ArrayList<>();
  private int current;
  private int names;

  Programs(Random random) {
    this.random = random;
  }

  String program() {
    for (;;) {
      String text = attempt();
      if (text.length() <= 500) {
        return text;
      }
    }
  }

  private String attempt() {
    functionNames.clear();
    functionParameters.clear();
    int functions = 1 + random.nextInt(3) + (random.nextInt(8) == 0 ? random.nextInt(6) : 0);
    for (int i = 0; i < functions; i++) {
      functionNames.add(letter(1 + (random.nextInt(5) < 3 ? 0 : 1 + random.nextInt(2))) + i);
      StringBuilder parameters = new StringBuilder();
      for (int j = random.nextInt(i == 0 ? 3 : 5); j > 0; j--) {
        parameters.append(letter(i == 0 || random.nextInt(3) > 0 ? 1 : 1 + random.nextInt(3)));
      }
      functionParameters.add(parameters.toString());
    }
    StringBuilder all = new StringBuilder();
    for (int i = 0; i < functions; i++) {
      all.append(function(i));
    }
    return all.toString();
  }

  private String function(int i) {
    current = i;
    names = 0;
    List<String> scope = new ArrayList<>();
    for (char c : functionParameters.get(i).toCharArray()) {
      scope.add(c + "" + names++);
    }
    String head = functionNames.get(i) + "(" + String.join(",", scope) + ")=";
    return head + x(typeOf(functionNames.get(i)), scope, 2 + random.nextInt(4)) + ";";
  }

  private String letter(int type) {
    String from = type == 1 ? NUMBERS : type == 2 ? TRUTHS : TABLES;
    return "" + from.charAt(random.nextInt(from.length()));
  }

  private static int typeOf(String name) {
    return name.charAt(0) < 's' ? 1 : name.charAt(0) < 'v' ? 2 : 3;
  }

  private static List<String> with(List<String> scope, List<String> more) {
    List<String> all = new ArrayList<>(scope);
    all.addAll(more);
    return all;
  }

  private String x(int type, List<String> scope, int depth) {
    if (depth > 0) {
      switch (random.nextInt(7)) {
        case 0: return let(type, scope, depth - 1);
        case 1: return "if " + x(2, scope, depth - 1) + " then " + x(type, scope, depth - 1)
            + " else " + x(type, scope, depth - 1);
        case 2: return loop(type, scope, depth - 1);
        default: break;
      }
    }
    return operand(type, scope, depth);
  }

  private String let(int type, List<String> scope, int depth) {
    String name = letter(1 + random.nextInt(3)) + names++;
    return "let " + name + "=" + x(typeOf(name), scope, depth) + " in "
        + x(type, with(scope, List.of(name)), depth);
  }

  private String loop(int type, List<String> scope, int depth) {
    List<String> bound = new ArrayList<>();
    StringBuilder text = new StringBuilder("loop ");
    bound.add(letter(1) + names++);
    text.append(bound.get(0)).append("=").append(random.nextInt(3));
    for (int i = random.nextInt(4); i > 0; i--) {
      String name = letter(1 + random.nextInt(3)) + names++;
      text.append(",").append(name).append("=").append(x(typeOf(name), scope, depth - 1));
      bound.add(name);
    }
    List<String> inner = with(scope, bound);
    String k = bound.get(0);
    boolean counted = random.nextInt(5) > 0;
    text.append(" while ");
    text.append(counted ? k + "<" + random.nextInt(6) : x(2, inner, depth - 1));
    text.append(" next ").append(k).append("=").append(counted ? k + "+1" : x(1, inner, depth - 1));
    for (int i = 1; i < bound.size(); i++) {
      if (random.nextBoolean()) {
        String name = bound.get(i);
        text.append(",").append(name).append("=").append(x(typeOf(name), inner, depth - 1));
      }
    }
    return text.append(" give ").append(x(type, inner, depth)).toString();
  }

  private String operand(int type, List<String> scope, int depth) {
    if (depth <= 0) {
      return atom(type, scope, depth);
    }
    int d = depth - 1;
    switch (random.nextInt(type == 3 ? 3 : 8)) {
      case 0: return atom(type, scope, depth);
      case 1: return "(" + x(type, scope, d) + ")";
      case 2: return call(type, scope, d);
      case 3: return (type == 1 ? "-" : "!") + atom(type, scope, d);
      default: break;
    }
    if (type == 1 && random.nextInt(3) == 0) {
      return (random.nextBoolean() ? atom(3, scope, d) : tab(scope, d)) + "[" + x(1, scope, d) + "]";
    }
    String signs = type == 1 ? "+-*/%" : random.nextBoolean() ? "|&" : "=<";
    char sign = signs.charAt(random.nextInt(signs.length()));
    int parts = sign == '=' || sign == '<' ? 1 : type;
    return atom(parts, scope, d) + sign + atom(parts, scope, d);
  }

  private String call(int type, List<String> scope, int depth) {
    List<Integer> fit = new ArrayList<>();
    for (int i = 0; i < functionNames.size(); i++) {
      boolean ahead = i > current || random.nextInt(4) == 0;
      if (typeOf(functionNames.get(i)) == type && ahead) {
        fit.add(i);
      }
    }
    if (fit.isEmpty()) {
      return atom(type, scope, depth);
    }
    int f = fit.get(random.nextInt(fit.size()));
    List<String> given = new ArrayList<>();
    for (char c : functionParameters.get(f).toCharArray()) {
      given.add(x(typeOf("" + c), scope, depth));
    }
    return functionNames.get(f) + "(" + String.join(",", given) + ")";
  }

  private String atom(int type, List<String> scope, int depth) {
    List<String> fit = new ArrayList<>();
    for (String name : scope) {
      if (typeOf(name) == type) {
        fit.add(name);
      }
    }
    if (!fit.isEmpty() && random.nextInt(3) > 0) {
      return fit.get(random.nextInt(fit.size()));
    }
    if (depth > 0 && random.nextInt(3) == 0) {
      return "(" + x(type, scope, depth - 1) + ")";
    }
    if (type == 3) {
      return tab(scope, depth);
    }
    return type == 1 ? "" + random.nextInt(5) : random.nextBoolean() ? "true" : "false";
  }

  private String tab(List<String> scope, int depth) {
    String table = letter(3) + names++;
    String index = letter(1) + names++;
    String size = random.nextInt(3) > 0 ? "" + random.nextInt(7) : x(1, scope, depth - 1);
    List<String> inner = with(scope, List.of(table, index));
    String cell = random.nextInt(3) > 0
        ? x(1, inner, depth - 1)
        : table + "[" + index + "-" + random.nextInt(2) + "]";
    return "(tab " + table + "[" + index + "<" + size + "] of " + cell + ")";
  }

  /** A tape that has a FAULT, most likely. */
  String spoilt() {
    StringBuilder tape = new StringBuilder(program());
    boolean onlyNames = random.nextBoolean();
    for (int i = 1 + random.nextInt(3); i > 0; i--) {
      int place = random.nextInt(tape.length() + 1);
      switch (onlyNames ? 3 : random.nextInt(4)) {
        case 0:
          tape.delete(place, Math.min(tape.length(), place + 1 + random.nextInt(3)));
          break;
        case 1:
          tape.insert(place, piece());
          break;
        case 2:
          tape.replace(place, Math.min(tape.length(), place + 1), piece());
          break;
        default:
          swapNames(tape);
          break;
      }
    }
    return tape.length() > 500 ? tape.substring(0, 500) : tape.toString();
  }

  private String piece() {
    return PIECES[random.nextInt(PIECES.length)];
  }

  /** Puts one NAME in the place of another, so that the form stays as it is. */
  private void swapNames(StringBuilder tape) {
    List<int[]> found = new ArrayList<>();
    java.util.regex.Matcher m =
        java.util.regex.Pattern.compile("[a-z][0-9]+").matcher(tape.toString());
    while (m.find()) {
      found.add(new int[] {m.start(), m.end()});
    }
    if (!found.isEmpty()) {
      int[] from = found.get(random.nextInt(found.size()));
      int[] to = found.get(random.nextInt(found.size()));
      tape.replace(to[0], to[1], tape.substring(from[0], from[1]));
    }
  }

  /** A row of pieces without sense. */
  String noise() {
    StringBuilder tape = new StringBuilder(random.nextInt(3) == 0 ? "" : "f0(n)=");
    for (int i = random.nextInt(60); i > 0; i--) {
      tape.append(piece());
    }
    return tape.length() > 500 ? tape.substring(0, 500) : tape.toString();
  }
}
