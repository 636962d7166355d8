import java.util.Arrays;
import java.util.NoSuchElementException;

/**
 * A language in which each name is bound once, made into a graph of operators through which tokens
 * flow, each with the tag of its activation. The tape is read by Parser into a Graph; Machine lets
 * the tokens flow through it, a frame (the tag) for each activation.
 */
public final class TagFlow {
  public static final int NONE = -1;

  private static final int MOST_CHARACTERS = 500;
  /** Of parameters, of arguments, of the NAMES of a loop. */
  private static final int MOST_NAMES = 4;
  private static final int MOST_FUNCTIONS = 8;
  private static final int MOST_EVENTS_A_CALL = 2000;
  private static final int MOST_EVENTS_IN_ALL = 5000;
  /** Every node and region has a TOKEN or more of its own, so the tape's length bounds them. */
  private static final int MOST_NODES = 512;

  /** What a value or the type of an X is, in the numbers that kind() answers. */
  private static final int NUMBER = 1;
  private static final int TRUTH = 2;
  private static final int TABLE = 3;
  private static final int ERROR = 4;

  private static final int NO_RUN = 0;
  private static final int UNDER_WAY = 1;
  private static final int ENDED = 2;
  private static final int DEADLOCK = 3;
  private static final int TOO_LONG = 4;

  private final byte[] tape = new byte[MOST_CHARACTERS];
  private final long[] given = new long[MOST_NAMES];
  private final Parser parser = new Parser();
  private final Machine machine = new Machine();
  private int typed;
  private int eventsInAll;
  private int runs;

  public TagFlow() {}

  public boolean type(long word, int n) {
    if (n < 1 || n > 8 || typed + n > MOST_CHARACTERS) {
      return false;
    }
    for (int i = 0; i < n; i++) {
      int character = byteOf(word, i);
      if (character < 32 || character > 126) {
        return false;
      }
    }
    for (int i = n - 1; i >= 0; i--) {
      tape[typed] = (byte) byteOf(word, i);
      typed++;
    }
    return true;
  }

  private static int byteOf(long word, int i) {
    return (int) (word >>> (8 * i)) & 255;
  }

  public int compile() throws IllegalArgumentException {
    int length = typed;
    typed = 0;
    if (!parser.read(tape, length)) {
      throw new IllegalArgumentException();
    }
    Graph old = machine.graph;
    machine.load(parser.graph);
    parser.graph = old;
    return machine.graph.layout.functions;
  }

  public int fault(int what) {
    switch (what) {
      case 0:
        return parser.fault.kind;
      case 1:
        return parser.fault.place;
      default:
        return NONE;
    }
  }

  public boolean start(int n, long a, long b, long c, long d) {
    Graph graph = machine.graph;
    if (n < 0 || n >= graph.layout.functions || !graph.takesNumbers(n)) {
      return false;
    }
    given[0] = a;
    given[1] = b;
    given[2] = c;
    given[3] = d;
    machine.begin(n, given);
    runs++;
    return true;
  }

  public int fire(int n, long schedule)
      throws IllegalStateException, IllegalArgumentException, ArithmeticException {
    if (machine.condition() != UNDER_WAY) {
      throw new IllegalStateException();
    }
    if (n < 1 || n > MOST_EVENTS_A_CALL) {
      throw new IllegalArgumentException();
    }
    if (eventsInAll >= MOST_EVENTS_IN_ALL) {
      throw new ArithmeticException();
    }
    int before = machine.events;
    machine.run(Math.min(n, MOST_EVENTS_IN_ALL - eventsInAll), schedule);
    eventsInAll += machine.events - before;
    return machine.events;
  }

  public int state() {
    return machine.condition();
  }

  public int kind() {
    return machine.condition() == ENDED ? machine.resultSort : 0;
  }

  public long value() throws NoSuchElementException {
    if (machine.condition() != ENDED) {
      throw new NoSuchElementException();
    }
    return machine.resultSort == TABLE ? Store.cellsIn(machine.resultWord) : machine.resultWord;
  }

  public long cell(int i, int what) throws NoSuchElementException {
    boolean isTable = machine.condition() == ENDED && machine.resultSort == TABLE;
    if (!isTable || i < 0 || i >= Store.cellsIn(machine.resultWord) || what < 0 || what > 1) {
      throw new NoSuchElementException();
    }
    int slot = Store.firstCell(machine.resultWord) + i;
    int sort = machine.store.sort[slot];
    if (what == 0) {
      return sort;
    }
    return sort == Store.MISSING ? 0 : machine.store.word[slot];
  }

  public int count(int what) {
    switch (what) {
      case 0:
        return machine.events;
      case 1:
        return eventsInAll;
      case 2:
        return machine.graph.layout.functions;
      case 3:
        return runs;
      default:
        return NONE;
    }
  }

  /** The TOKENS of the tape; a sign's kind is its character, the others lie below all of these. */
  private static final class Tokens {
    static final int END = 0;
    static final int NAME = 1;
    static final int NUMERAL = 2;
    static final int NO_TOKEN = 3;
    static final int LET = 4;
    static final int IN = 5;
    static final int IF = 6;
    static final int THEN = 7;
    static final int ELSE = 8;
    static final int LOOP = 9;
    static final int WHILE = 10;
    static final int NEXT = 11;
    static final int GIVE = 12;
    static final int TAB = 13;
    static final int OF = 14;
    static final int TRUE = 15;
    static final int FALSE = 16;

    private static final String SIGNS = "()[],;=<+-*/%&|!";
    static final int MOST_LETTERS = 6;
    private static final int MOST_DIGITS = 10;
    /** The WORDS, packed as a NAME's letters are, in the order of their kinds from LET on. */
    private static final long[] WORDS = {
      0x6c6574L, 0x696eL, 0x6966L, 0x7468656eL, 0x656c7365L, 0x6c6f6f70L, 0x7768696c65L,
      0x6e657874L, 0x67697665L, 0x746162L, 0x6f66L, 0x74727565L, 0x66616c7365L
    };

    final int[] kind = new int[MOST_CHARACTERS + 1];
    final int[] place = new int[MOST_CHARACTERS + 1];
    /** A NUMBER's value; a NAME's letters, eight bits each. */
    final long[] number = new long[MOST_CHARACTERS + 1];
    private int size;

    void read(byte[] tape, int length) {
      size = 0;
      int from = 0;
      for (int i = 0; i < length && from < length; i++) {
        from = tape[from] == ' ' ? from + 1 : readAt(tape, length, from);
      }
      add(END, length, 0);
    }

    private int readAt(byte[] tape, int length, int from) {
      char first = (char) tape[from];
      if (isDigit(first)) {
        return readNumeral(tape, length, from);
      }
      if (isLetter(first)) {
        return readLetters(tape, length, from);
      }
      add(SIGNS.indexOf(first) >= 0 ? first : NO_TOKEN, from, 0);
      return from + 1;
    }

    private int readNumeral(byte[] tape, int length, int from) {
      long value = 0;
      int end = from;
      for (; end < length && isDigit(tape[end]); end++) {
        value = value * 10 + (tape[end] - '0');
      }
      add(end - from > MOST_DIGITS ? NO_TOKEN : NUMERAL, from, value);
      return end;
    }

    private int readLetters(byte[] tape, int length, int from) {
      long letters = 0;
      int end = from;
      for (; end < length && (isLetter(tape[end]) || isDigit(tape[end])); end++) {
        letters = letters << 8 | tape[end];
      }
      add(end - from > MOST_LETTERS ? NO_TOKEN : nameOrWord(letters), from, letters);
      return end;
    }

    private static int nameOrWord(long letters) {
      for (int i = 0; i < WORDS.length; i++) {
        if (WORDS[i] == letters) {
          return LET + i;
        }
      }
      return NAME;
    }

    private static boolean isDigit(int character) {
      return character >= '0' && character <= '9';
    }

    private static boolean isLetter(int character) {
      return character >= 'a' && character <= 'z';
    }

    private void add(int newKind, int newPlace, long newNumber) {
      kind[size] = newKind;
      place[size] = newPlace;
      number[size] = newNumber;
      size++;
    }
  }

  /** The FAULT of a tape; kind 0 is none. */
  private static final class Fault {
    static final int FORM = 1;
    static final int NAMING = 2;
    static final int TYPING = 3;

    int kind;
    int place;

    void clear() {
      kind = 0;
      place = 0;
    }

    void note(int newKind, int newPlace) {
      boolean first = kind == 0 || newPlace < place;
      if (first || (newPlace == place && newKind < kind)) {
        kind = newKind;
        place = newPlace;
      }
    }
  }

  /**
   * The FUNCTIONS, the regions (each a part that is entered as a whole, known by the leaves at
   * which tokens begin) and the templates (each the slots of one kind of frame).
   */
  private static final class Layout {
    final long[] functionName = new long[MOST_FUNCTIONS];
    final int[] functionRegion = new int[MOST_FUNCTIONS];
    /** The first of the chain of parameters. */
    final int[] parameter = new int[MOST_FUNCTIONS];
    int functions;

    final int[] firstLeaf = new int[MOST_NODES];
    final int[] template = new int[MOST_NODES];
    private int regions;

    final int[] slots = new int[MOST_NODES];
    /** How many frames lie around one of this template: the way out to a NAME's variable. */
    final int[] depth = new int[MOST_NODES];
    private int templates;

    void clear() {
      functions = 0;
      regions = 0;
      templates = 0;
    }

    int addTemplate(int newDepth) {
      slots[templates] = 0;
      depth[templates] = newDepth;
      templates++;
      return templates - 1;
    }

    int addRegion(int ofTemplate) {
      firstLeaf[regions] = NONE;
      template[regions] = ofTemplate;
      regions++;
      return regions - 1;
    }

    int addFunction(long name) {
      functionName[functions] = name;
      functionRegion[functions] = addRegion(addTemplate(0));
      parameter[functions] = NONE;
      functions++;
      return functions - 1;
    }

    /** The first one so named, since calls go by the first time. */
    int findFunction(long name) {
      for (int i = 0; i < functions; i++) {
        if (functionName[i] == name) {
          return i;
        }
      }
      return NONE;
    }
  }

  /** The nodes of a PROGRAM; each kind tells for what it uses left, right and region. */
  private static final class Graph {
    static final int CONSTANT = 1;
    /** A NAME where it is used; left is its variable. */
    static final int USE = 2;
    /** Where a NAME is bound; of a loop, left its first X, right not NONE once next binds it. */
    static final int VARIABLE = 3;
    static final int UNARY = 4;
    static final int BINARY = 5;
    /** [ ]: left the table, right the index. */
    static final int ELEMENT = 6;
    /** An if: left the condition, region the part behind then; the next one is that behind else. */
    static final int CHOICE = 7;
    /** Left the first argument, right the FUNCTION. */
    static final int CALL = 8;
    /** Left its first variable, right the condition, region that of while, then next, give. */
    static final int LOOP = 9;
    /** Left the size, right the variable of the table, whose sibling is that of the index. */
    static final int TAB = 10;
    /** Left its variable. */
    static final int LET = 11;

    /** The roles: where a node's value goes. Of a variable: it stays for those who use the NAME. */
    static final int STAYS = 0;
    /** The one value for which the parent waits. */
    static final int SOLE = 1;
    /** One of the two values for which the parent waits. */
    static final int PAIR = 2;
    /** It is the parent's value, too. */
    static final int PASS = 3;
    /** To the variable target in the same frame. */
    static final int BIND = 4;
    /** To the variable target in the frame that the parent has opened or will open. */
    static final int HAND_IN = 5;
    /** To the variable target in the frame of the next round. */
    static final int NEXT = 6;
    /** Out of the last round: the value of the loop. */
    static final int GIVE = 7;
    static final int CELL = 8;
    static final int BODY = 9;

    final Layout layout = new Layout();
    final int[] kind = new int[MOST_NODES];
    final int[] type = new int[MOST_NODES];
    final int[] role = new int[MOST_NODES];
    final int[] parent = new int[MOST_NODES];
    final int[] target = new int[MOST_NODES];
    final int[] left = new int[MOST_NODES];
    final int[] right = new int[MOST_NODES];
    final int[] sibling = new int[MOST_NODES];
    final int[] region = new int[MOST_NODES];
    final int[] nextLeaf = new int[MOST_NODES];
    final int[] template = new int[MOST_NODES];
    final int[] slot = new int[MOST_NODES];
    /** Where its own TOKEN stands. */
    final int[] place = new int[MOST_NODES];
    /** Where the X begins of which it is the root, a ( around it included. */
    final int[] begin = new int[MOST_NODES];
    /** A constant's value, an operator's sign, a NAME's letters. */
    final long[] number = new long[MOST_NODES];
    int nodes;

    void clear() {
      nodes = 0;
      layout.clear();
    }

    int add(int newKind, int newType, int newPlace, long newNumber, int inRegion) {
      int node = nodes;
      nodes++;
      kind[node] = newKind;
      type[node] = newType;
      role[node] = STAYS;
      parent[node] = NONE;
      target[node] = NONE;
      left[node] = NONE;
      right[node] = NONE;
      sibling[node] = NONE;
      region[node] = NONE;
      place[node] = newPlace;
      begin[node] = newPlace;
      number[node] = newNumber;
      moveTo(node, layout.template[inRegion]);
      if (newKind == CONSTANT || newKind == USE || newKind == CALL || newKind == LOOP) {
        nextLeaf[node] = layout.firstLeaf[inRegion];
        layout.firstLeaf[inRegion] = node;
      }
      return node;
    }

    /** A call and a loop have a second slot, for the frame that they open. */
    void moveTo(int node, int newTemplate) {
      boolean opens = kind[node] == CALL || kind[node] == LOOP;
      template[node] = newTemplate;
      slot[node] = layout.slots[newTemplate];
      layout.slots[newTemplate] += opens ? 2 : 1;
    }

    void connect(int node, int newRole, int newParent, int newTarget) {
      role[node] = newRole;
      parent[node] = newParent;
      target[node] = newTarget;
    }

    /** A template for frames that lie in those in which this node is. */
    int addInnerTemplate(int node) {
      return layout.addTemplate(layout.depth[template[node]] + 1);
    }

    int chainLength(int first) {
      int length = 0;
      for (int node = first; node != NONE && length < MOST_NODES; node = sibling[node]) {
        length++;
      }
      return length;
    }

    int findInChain(int first, long name) {
      int node = first;
      for (int i = 0; i < MOST_NODES && node != NONE && number[node] != name; i++) {
        node = sibling[node];
      }
      return node;
    }

    /** Puts a node at the end of a chain: the chain's first node from now on. */
    int append(int first, int node) {
      int last = first;
      for (int i = 0; i < MOST_NODES && last != NONE && sibling[last] != NONE; i++) {
        last = sibling[last];
      }
      if (last == NONE) {
        return node;
      }
      sibling[last] = node;
      return first;
    }

    boolean takesNumbers(int function) {
      int node = layout.parameter[function];
      for (int i = 0; i < MOST_NAMES && node != NONE && type[node] == NUMBER; i++) {
        node = sibling[node];
      }
      return node == NONE;
    }
  }

  /** What the parser has begun and not ended; operators by their strength, the weakest first. */
  private static final class Opens {
    static final int OR = 1;
    static final int AND = 2;
    static final int COMPARISON = 3;
    static final int SUM = 4;
    static final int PRODUCT = 5;
    static final int AHEAD = 6;

    static final int BODY = 10;
    static final int BRACKET = 11;
    static final int SUBSCRIPT = 12;
    static final int ARGUMENT = 13;
    static final int LET_VALUE = 14;
    static final int LET_BODY = 15;
    static final int CONDITION = 16;
    static final int THEN_PART = 17;
    static final int ELSE_PART = 18;
    static final int FIRST_VALUE = 19;
    static final int WHILE_PART = 20;
    static final int NEXT_VALUE = 21;
    static final int GIVE_PART = 22;
    static final int TAB_SIZE = 23;
    static final int TAB_CELL = 24;

    private final int[] kind = new int[MOST_NODES];
    private final int[] node = new int[MOST_NODES];
    private final int[] region = new int[MOST_NODES];
    int size;

    void push(int newKind, int newNode, int newRegion) {
      kind[size] = newKind;
      node[size] = newNode;
      region[size] = newRegion;
      size++;
    }

    int pop() {
      size--;
      return node[size];
    }

    int topKind() {
      return size == 0 ? 0 : kind[size - 1];
    }

    int topNode() {
      return size == 0 ? NONE : node[size - 1];
    }

    int topRegion() {
      return size == 0 ? NONE : region[size - 1];
    }

    /** 0 if the latest is no operator. */
    int topStrength() {
      return topKind() <= AHEAD ? topKind() : 0;
    }

    /** Whether the latest ends where nothing more fits, not by a TOKEN of its own. */
    boolean topEndsByItself() {
      int top = topKind();
      return top == LET_BODY || top == ELSE_PART || top == GIVE_PART || top == TAB_CELL;
    }

    static int strengthOf(int sign) {
      switch (sign) {
        case '|':
          return OR;
        case '&':
          return AND;
        case '=':
        case '<':
          return COMPARISON;
        case '+':
        case '-':
          return SUM;
        case '*':
        case '/':
        case '%':
          return PRODUCT;
        default:
          return 0;
      }
    }
  }

  /**
   * Makes the tape a graph, or finds its FAULT. It holds what is open in a stack of its own: bare
   * ifs may nest deeper on a tape than calls of methods should.
   */
  private static final class Parser {
    private static final int MOST_BRACKETS = 20;

    /** What is due next: an X from its beginning, an operand of one, what may stand behind that. */
    private static final int WHOLE = 0;
    private static final int OPERAND = 1;
    private static final int FOLLOWER = 2;
    private static final int FIRST_NAME = 3;
    private static final int NEXT_NAME = 4;
    private static final int NOTHING = 5;

    final Fault fault = new Fault();
    /** Apart from the PROGRAM in use, which a tape with a FAULT must leave as it is. */
    Graph graph = new Graph();
    private final Tokens tokens = new Tokens();
    private final Opens opens = new Opens();
    /** The variables that are known at this place. */
    private final int[] known = new int[MOST_NODES];
    private int knownSize;
    private int at;
    private int due;
    /** The root of the operand, or X, that was read last. */
    private int last;
    private int brackets;
    /** The loop of which a NAME is due. */
    private int loop;

    boolean read(byte[] tape, int length) {
      graph.clear();
      fault.clear();
      tokens.read(tape, length);
      at = 0;
      boolean formed = header() && expression();
      for (int i = 1; i <= MOST_FUNCTIONS && formed && kindHere() != Tokens.END; i++) {
        formed = i < MOST_FUNCTIONS ? header() && expression() : refuse();
      }
      if (formed) {
        linkCalls();
      }
      return fault.kind == 0;
    }

    private int kindHere() {
      return tokens.kind[at];
    }

    private int placeHere() {
      return tokens.place[at];
    }

    /** A FAULT of FORM goes ahead of all others, wherever they are. */
    private boolean refuse() {
      fault.kind = Fault.FORM;
      fault.place = tokens.place[at];
      return false;
    }

    private boolean take(int kind) {
      if (kindHere() != kind) {
        return refuse();
      }
      at++;
      return true;
    }

    private boolean header() {
      if (kindHere() != Tokens.NAME) {
        return refuse();
      }
      long name = tokens.number[at];
      if (graph.layout.findFunction(name) != NONE) {
        fault.note(Fault.NAMING, placeHere());
      }
      int function = graph.layout.addFunction(name);
      at++;
      knownSize = 0;
      brackets = 0;
      opens.size = 0;
      opens.push(Opens.BODY, function, graph.layout.functionRegion[function]);
      due = WHOLE;
      return take('(') && parameters(function) && take(')') && take('=');
    }

    private boolean parameters(int function) {
      boolean more = kindHere() != ')';
      for (int i = 0; i <= MOST_NAMES && more; i++) {
        if (kindHere() != Tokens.NAME || i == MOST_NAMES) {
          return refuse();
        }
        int variable = bindHere();
        graph.layout.parameter[function] =
            graph.append(graph.layout.parameter[function], variable);
        know(variable);
        more = kindHere() == ',';
        if (more) {
          at++;
        }
      }
      return true;
    }

    private boolean expression() {
      boolean formed = true;
      for (int i = 0; i <= MOST_CHARACTERS && formed && due != NOTHING; i++) {
        switch (due) {
          case FOLLOWER:
            formed = follow();
            break;
          case FIRST_NAME:
            formed = openFirstValue();
            break;
          case NEXT_NAME:
            formed = openNextValue();
            break;
          default:
            formed = operand();
            break;
        }
      }
      return formed;
    }

    // What begins with the TOKEN here.

    private boolean operand() {
      if (due == WHOLE && brackets >= MOST_BRACKETS) {
        return refuse();
      }
      switch (kindHere()) {
        case Tokens.NAME:
          return tokens.kind[at + 1] == '(' ? openCall() : use();
        case Tokens.NUMERAL:
          return constant(NUMBER, tokens.number[at]);
        case Tokens.TRUE:
          return constant(TRUTH, 1);
        case Tokens.FALSE:
          return constant(TRUTH, 0);
        case '-':
          return openAhead(NUMBER);
        case '!':
          return openAhead(TRUTH);
        case '(':
          return openBracket();
        case Tokens.TAB:
          return openTab();
        case Tokens.LET:
          return due == WHOLE ? openLet() : refuse();
        case Tokens.IF:
          return due == WHOLE ? openChoice() : refuse();
        case Tokens.LOOP:
          return due == WHOLE ? openLoop() : refuse();
        default:
          return refuse();
      }
    }

    private int addHere(int kind, int type, long number) {
      int node = graph.add(kind, type, placeHere(), number, opens.topRegion());
      at++;
      return node;
    }

    private boolean open(int kind, int node, int region) {
      opens.push(kind, node, region);
      due = WHOLE;
      return true;
    }

    private boolean endOperand(int node) {
      last = node;
      due = FOLLOWER;
      return true;
    }

    private boolean constant(int type, long value) {
      return endOperand(addHere(Graph.CONSTANT, type, value));
    }

    private boolean use() {
      long name = tokens.number[at];
      int variable = findKnown(name);
      if (variable == NONE) {
        fault.note(Fault.NAMING, placeHere());
      }
      int node = addHere(Graph.USE, typeOf(name), name);
      graph.left[node] = variable;
      return endOperand(node);
    }

    private boolean openCall() {
      long name = tokens.number[at];
      int call = addHere(Graph.CALL, typeOf(name), name);
      at++;
      if (kindHere() == ')') {
        at++;
        return endOperand(call);
      }
      brackets++;
      return open(Opens.ARGUMENT, call, opens.topRegion());
    }

    private boolean openAhead(int type) {
      int node = addHere(Graph.UNARY, type, kindHere());
      opens.push(Opens.AHEAD, node, opens.topRegion());
      due = OPERAND;
      return true;
    }

    private boolean openBracket() {
      int place = placeHere();
      at++;
      brackets++;
      return open(Opens.BRACKET, place, opens.topRegion());
    }

    private boolean openTab() {
      int tab = addHere(Graph.TAB, TABLE, 0);
      int inner = graph.layout.addRegion(graph.addInnerTemplate(tab));
      graph.region[tab] = inner;
      if (kindHere() != Tokens.NAME) {
        return refuse();
      }
      int table = bindHere();
      checkType(table, TABLE);
      graph.right[tab] = table;
      if (!take('[') || kindHere() != Tokens.NAME) {
        return refuse();
      }
      if (tokens.number[at] == graph.number[table]) {
        fault.note(Fault.NAMING, placeHere());
      }
      int index = bindHere();
      checkType(index, NUMBER);
      graph.sibling[table] = index;
      graph.parent[index] = tab;
      graph.moveTo(table, graph.layout.template[inner]);
      graph.moveTo(index, graph.layout.template[inner]);
      brackets++;
      return take('<') && open(Opens.TAB_SIZE, tab, opens.topRegion());
    }

    private boolean openLet() {
      int let = addHere(Graph.LET, 0, 0);
      if (kindHere() != Tokens.NAME) {
        return refuse();
      }
      graph.left[let] = bindHere();
      return take('=') && open(Opens.LET_VALUE, let, opens.topRegion());
    }

    private boolean openChoice() {
      int choice = addHere(Graph.CHOICE, 0, 0);
      int template = graph.template[choice];
      graph.region[choice] = graph.layout.addRegion(template);
      graph.layout.addRegion(template);
      return open(Opens.CONDITION, choice, opens.topRegion());
    }

    private boolean openLoop() {
      loop = addHere(Graph.LOOP, 0, 0);
      int template = graph.addInnerTemplate(loop);
      graph.region[loop] = graph.layout.addRegion(template);
      graph.layout.addRegion(template);
      graph.layout.addRegion(template);
      due = FIRST_NAME;
      return true;
    }

    private boolean openFirstValue() {
      int first = graph.left[loop];
      if (kindHere() != Tokens.NAME || graph.chainLength(first) == MOST_NAMES) {
        return refuse();
      }
      if (graph.findInChain(first, tokens.number[at]) != NONE) {
        fault.note(Fault.NAMING, placeHere());
      }
      int variable = bindHere();
      graph.parent[variable] = loop;
      graph.left[loop] = graph.append(graph.left[loop], variable);
      return take('=') && open(Opens.FIRST_VALUE, variable, opens.topRegion());
    }

    private boolean openNextValue() {
      if (kindHere() != Tokens.NAME) {
        return refuse();
      }
      long name = tokens.number[at];
      int variable = graph.findInChain(graph.left[loop], name);
      if (variable == NONE || graph.right[variable] != NONE) {
        fault.note(Fault.NAMING, placeHere());
        variable = graph.add(Graph.VARIABLE, typeOf(name), placeHere(), name, opens.topRegion());
        graph.parent[variable] = loop;
      }
      graph.right[variable] = loop;
      at++;
      return take('=') && open(Opens.NEXT_VALUE, variable, graph.region[loop] + 1);
    }

    // The names.

    /** A new variable for the NAME here, which is not yet known by that. */
    private int bindHere() {
      long name = tokens.number[at];
      int place = placeHere();
      if (findKnown(name) != NONE) {
        fault.note(Fault.NAMING, place);
      }
      at++;
      return graph.add(Graph.VARIABLE, typeOf(name), place, name, opens.topRegion());
    }

    private void know(int variable) {
      known[knownSize] = variable;
      knownSize++;
    }

    private void forget(int howMany) {
      knownSize -= howMany;
    }

    private int findKnown(long name) {
      for (int i = knownSize - 1; i >= 0; i--) {
        if (graph.number[known[i]] == name) {
          return known[i];
        }
      }
      return NONE;
    }

    private static int typeOf(long name) {
      long first = name;
      for (int i = 1; i < Tokens.MOST_LETTERS && first > 255; i++) {
        first = first >> 8;
      }
      if (first <= 'r') {
        return NUMBER;
      }
      return first <= 'u' ? TRUTH : TABLE;
    }

    private void checkType(int root, int wanted) {
      if (graph.type[root] != wanted) {
        fault.note(Fault.TYPING, graph.begin[root]);
      }
    }

    // What stands behind an operand.

    private boolean follow() {
      int kind = kindHere();
      if (kind == '[') {
        return openElement();
      }
      int strength = Opens.strengthOf(kind);
      boolean operand = true;
      for (int i = opens.size; i > 0; i--) {
        endOperators(strength);
        if (operand && opens.topStrength() < strength) {
          return openBinary(kind, strength);
        }
        endOperators(0);
        if (!opens.topEndsByItself()) {
          return close(kind);
        }
        operand = opens.topKind() == Opens.TAB_CELL;
        endByItself();
      }
      return refuse();
    }

    private boolean openElement() {
      int element = addHere(Graph.ELEMENT, NUMBER, 0);
      graph.left[element] = last;
      graph.begin[element] = graph.begin[last];
      graph.connect(last, Graph.PAIR, element, NONE);
      checkType(last, TABLE);
      brackets++;
      return open(Opens.SUBSCRIPT, element, opens.topRegion());
    }

    private boolean openBinary(int sign, int strength) {
      int node = addHere(Graph.BINARY, strength >= Opens.SUM ? NUMBER : TRUTH, sign);
      graph.left[node] = last;
      graph.begin[node] = graph.begin[last];
      graph.connect(last, Graph.PAIR, node, NONE);
      checkType(last, strength >= Opens.COMPARISON ? NUMBER : TRUTH);
      opens.push(strength, node, opens.topRegion());
      due = OPERAND;
      return true;
    }

    /** Gives what was read last to the open operators that bind it, against one so strong. */
    private void endOperators(int strength) {
      for (int i = opens.size; i > 0; i--) {
        int top = opens.topStrength();
        boolean fromTheLeft = top == strength && top != Opens.COMPARISON;
        if (top == 0 || !(top > strength || fromTheLeft)) {
          return;
        }
        endOperator(top);
      }
    }

    private void endOperator(int strength) {
      int node = opens.pop();
      if (strength == Opens.AHEAD) {
        graph.left[node] = last;
        graph.connect(last, Graph.SOLE, node, NONE);
        checkType(last, graph.type[node]);
      } else {
        graph.right[node] = last;
        graph.connect(last, Graph.PAIR, node, NONE);
        checkType(last, strength >= Opens.COMPARISON ? NUMBER : TRUTH);
      }
      last = node;
    }

    private void endByItself() {
      int top = opens.topKind();
      int node = opens.pop();
      switch (top) {
        case Opens.LET_BODY:
          graph.connect(last, Graph.PASS, node, NONE);
          graph.type[node] = graph.type[last];
          forget(1);
          break;
        case Opens.ELSE_PART:
          graph.connect(last, Graph.PASS, node, NONE);
          checkType(last, graph.type[node]);
          break;
        case Opens.GIVE_PART:
          graph.connect(last, Graph.GIVE, node, NONE);
          graph.type[node] = graph.type[last];
          forget(graph.chainLength(graph.left[node]));
          break;
        default:
          graph.connect(last, Graph.CELL, node, NONE);
          checkType(last, NUMBER);
          forget(2);
          break;
      }
      last = node;
    }

    private boolean close(int kind) {
      switch (opens.topKind()) {
        case Opens.BODY:
          return take(';') && endBody();
        case Opens.BRACKET:
          return take(')') && endBracket();
        case Opens.SUBSCRIPT:
          return take(']') && endElement();
        case Opens.ARGUMENT:
          return endArgument(kind);
        case Opens.LET_VALUE:
          return take(Tokens.IN) && endLetValue();
        case Opens.CONDITION:
          return take(Tokens.THEN) && endCondition();
        case Opens.THEN_PART:
          return take(Tokens.ELSE) && endThenPart();
        case Opens.FIRST_VALUE:
          return endFirstValue(kind);
        case Opens.WHILE_PART:
          return take(Tokens.NEXT) && endWhilePart();
        case Opens.NEXT_VALUE:
          return endNextValue(kind);
        default:
          return take(']') && take(Tokens.OF) && endTabSize();
      }
    }

    private boolean endBody() {
      int function = opens.pop();
      graph.connect(last, Graph.BODY, NONE, NONE);
      checkType(last, typeOf(graph.layout.functionName[function]));
      due = NOTHING;
      return true;
    }

    private boolean endBracket() {
      graph.begin[last] = opens.pop();
      brackets--;
      return endOperand(last);
    }

    private boolean endElement() {
      int element = opens.pop();
      graph.right[element] = last;
      graph.connect(last, Graph.PAIR, element, NONE);
      checkType(last, NUMBER);
      brackets--;
      return endOperand(element);
    }

    private boolean endArgument(int kind) {
      int call = opens.topNode();
      graph.connect(last, Graph.HAND_IN, call, NONE);
      graph.left[call] = graph.append(graph.left[call], last);
      if (kind == ',') {
        at++;
        due = WHOLE;
        return graph.chainLength(graph.left[call]) < MOST_NAMES || refuse();
      }
      opens.pop();
      brackets--;
      return take(')') && endOperand(call);
    }

    private boolean endLetValue() {
      int let = opens.pop();
      int variable = graph.left[let];
      graph.connect(last, Graph.BIND, let, variable);
      checkType(last, graph.type[variable]);
      know(variable);
      return open(Opens.LET_BODY, let, opens.topRegion());
    }

    private boolean endCondition() {
      int choice = opens.pop();
      graph.left[choice] = last;
      graph.connect(last, Graph.SOLE, choice, NONE);
      checkType(last, TRUTH);
      return open(Opens.THEN_PART, choice, graph.region[choice]);
    }

    private boolean endThenPart() {
      int choice = opens.pop();
      graph.connect(last, Graph.PASS, choice, NONE);
      graph.type[choice] = graph.type[last];
      return open(Opens.ELSE_PART, choice, graph.region[choice] + 1);
    }

    private boolean endFirstValue(int kind) {
      int variable = opens.pop();
      loop = graph.parent[variable];
      graph.left[variable] = last;
      graph.connect(last, Graph.BIND, loop, variable);
      checkType(last, graph.type[variable]);
      if (kind == ',') {
        at++;
        due = FIRST_NAME;
        return true;
      }
      return take(Tokens.WHILE) && openWhilePart();
    }

    private boolean openWhilePart() {
      int variable = graph.left[loop];
      for (int i = 0; i < MOST_NAMES && variable != NONE; i++) {
        know(variable);
        variable = graph.sibling[variable];
      }
      opens.push(Opens.WHILE_PART, loop, graph.region[loop]);
      due = WHOLE;
      return true;
    }

    private boolean endWhilePart() {
      loop = opens.pop();
      graph.right[loop] = last;
      graph.connect(last, Graph.SOLE, loop, NONE);
      checkType(last, TRUTH);
      due = NEXT_NAME;
      return true;
    }

    private boolean endNextValue(int kind) {
      int variable = opens.pop();
      loop = graph.parent[variable];
      graph.connect(last, Graph.NEXT, loop, variable);
      checkType(last, graph.type[variable]);
      if (kind == ',') {
        at++;
        due = NEXT_NAME;
        return true;
      }
      return take(Tokens.GIVE) && openGivePart();
    }

    /** A NAME that next does not bind stays outside, in the frame around all rounds, like let's. */
    private boolean openGivePart() {
      int template = graph.layout.template[graph.region[loop]];
      int variable = graph.left[loop];
      for (int i = 0; i < MOST_NAMES && variable != NONE; i++) {
        if (graph.right[variable] != NONE) {
          graph.moveTo(variable, template);
          graph.role[graph.left[variable]] = Graph.HAND_IN;
        }
        variable = graph.sibling[variable];
      }
      opens.push(Opens.GIVE_PART, loop, graph.region[loop] + 2);
      due = WHOLE;
      return true;
    }

    private boolean endTabSize() {
      int tab = opens.pop();
      graph.left[tab] = last;
      graph.connect(last, Graph.SOLE, tab, NONE);
      checkType(last, NUMBER);
      brackets--;
      know(graph.right[tab]);
      know(graph.sibling[graph.right[tab]]);
      return open(Opens.TAB_CELL, tab, graph.region[tab]);
    }

    // The calls, once all FUNCTIONS are known.

    private void linkCalls() {
      for (int node = 0; node < graph.nodes; node++) {
        if (graph.kind[node] == Graph.CALL) {
          linkCall(node);
        }
      }
    }

    private void linkCall(int call) {
      int function = graph.layout.findFunction(graph.number[call]);
      int variable = function == NONE ? NONE : graph.layout.parameter[function];
      int argument = graph.left[call];
      if (function == NONE || graph.chainLength(variable) != graph.chainLength(argument)) {
        fault.note(Fault.NAMING, graph.place[call]);
        return;
      }
      graph.right[call] = function;
      for (int i = 0; i < MOST_NAMES && argument != NONE && variable != NONE; i++) {
        graph.target[argument] = variable;
        checkType(argument, graph.type[variable]);
        argument = graph.sibling[argument];
        variable = graph.sibling[variable];
      }
    }
  }

  /**
   * The slots of all frames and the cells of all tables. A slot that is MISSING its value holds
   * the chain of those that wait for it instead.
   */
  private static final class Store {
    static final int MISSING = 0;
    static final int MOST_CELLS = 20;
    private static final int CELL_BITS = 5;

    byte[] sort = new byte[1024];
    long[] word = new long[1024];
    private int size;

    void clear() {
      size = 0;
    }

    int take(int howMany) {
      int first = size;
      size += howMany;
      if (size > sort.length) {
        int length = Math.max(size, 2 * sort.length);
        sort = Arrays.copyOf(sort, length);
        word = Arrays.copyOf(word, length);
      }
      Arrays.fill(sort, first, size, (byte) MISSING);
      Arrays.fill(word, first, size, 0L);
      return first;
    }

    void put(int slot, int newSort, long newWord) {
      sort[slot] = (byte) newSort;
      word[slot] = newWord;
    }

    /** A table's word tells where its cells begin and how many they are. */
    static long tableOf(int firstCell, int cells) {
      return (long) firstCell << CELL_BITS | cells;
    }

    static int firstCell(long table) {
      return (int) (table >> CELL_BITS);
    }

    static int cellsIn(long table) {
      return (int) table & ((1 << CELL_BITS) - 1);
    }
  }

  /** The activations: each call, round and cell that was entered. */
  private static final class Frames {
    int[] base = new int[64];
    /** The frame of the call, or that in which the loop or tab stands. */
    int[] owner = new int[64];
    /** The call; the loop; the slot of the cell. */
    int[] site = new int[64];
    /** Of a round, the frame of the next one. */
    int[] following = new int[64];
    private int size;

    void clear() {
      size = 0;
    }

    int add(int newBase, int newOwner, int newSite) {
      if (size == base.length) {
        base = Arrays.copyOf(base, 2 * size);
        owner = Arrays.copyOf(owner, 2 * size);
        site = Arrays.copyOf(site, 2 * size);
        following = Arrays.copyOf(following, 2 * size);
      }
      base[size] = newBase;
      owner[size] = newOwner;
      site[size] = newSite;
      following[size] = 0;
      size++;
      return size - 1;
    }

    int outward(int frame, int levels) {
      int outer = frame;
      for (int i = 0; i < levels; i++) {
        outer = owner[outer];
      }
      return outer;
    }
  }

  /** Chains of nodes in frames, linked by number; 0 is the end of each. */
  private static final class Chains {
    int[] who = new int[256];
    int[] next = new int[256];
    private int size = 1;
    private int free;

    void clear() {
      size = 1;
      free = 0;
    }

    int add(int newWho, int chain) {
      int link = free;
      if (link != 0) {
        free = next[link];
      } else {
        link = size;
        size++;
        if (size > who.length) {
          who = Arrays.copyOf(who, 2 * who.length);
          next = Arrays.copyOf(next, 2 * next.length);
        }
      }
      who[link] = newWho;
      next[link] = chain;
      return link;
    }

    void release(int link) {
      next[link] = free;
      free = link;
    }
  }

  /** Lets the tokens of a RUN flow. */
  private static final class Machine {
    private static final int MOST_EVENTS = 1000;
    private static final int MOST_STEPS = 1 << 24;
    private static final int DIVIDED_BY_ZERO = 1;
    private static final int NO_SUCH_CELL = 2;
    private static final int NO_SUCH_SIZE = 3;

    Graph graph = new Graph();
    final Store store = new Store();
    int events;
    int resultSort;
    long resultWord;
    private final Frames frames = new Frames();
    private final Chains chains = new Chains();
    /** The EVENTS that can happen; once it is full the RUN is TOO LONG, so more need no room. */
    private final int[] ready = new int[MOST_EVENTS + 1];
    private int readySize;
    private boolean begun;
    /** The chain of nodes at which something may go on without an EVENT. */
    private int awake;
    /** The token that is on its way. */
    private boolean moving;
    private int frame;
    private int node;
    private int sort;
    private long word;

    void load(Graph program) {
      graph = program;
      begun = false;
      events = 0;
    }

    int condition() {
      if (!begun) {
        return NO_RUN;
      }
      if (readySize > 0) {
        return events < MOST_EVENTS ? UNDER_WAY : TOO_LONG;
      }
      return resultSort == Store.MISSING ? DEADLOCK : ENDED;
    }

    void begin(int function, long[] given) {
      begun = true;
      events = 0;
      resultSort = Store.MISSING;
      readySize = 0;
      awake = 0;
      moving = false;
      store.clear();
      frames.clear();
      chains.clear();
      int region = graph.layout.functionRegion[function];
      int root = openFrame(region, NONE, NONE);
      int variable = graph.layout.parameter[function];
      for (int i = 0; i < MOST_NAMES && variable != NONE; i++) {
        store.put(slotOf(root, variable), NUMBER, given[i]);
        variable = graph.sibling[variable];
      }
      enter(root, region);
      flow();
    }

    void run(int most, long schedule) {
      long pick = schedule;
      for (int i = 0; i < most && condition() == UNDER_WAY; i++) {
        // What is ready will happen: a RUN with too much of that is TOO LONG whatever it does.
        if (events + readySize <= MOST_EVENTS) {
          pick = pick * 6364136223846793005L + 1442695040888963407L;
          happen((int) Math.floorMod(pick >> 16, (long) readySize));
          flow();
        }
        events++;
      }
    }

    private int slotOf(int inFrame, int ofNode) {
      return frames.base[inFrame] + graph.slot[ofNode];
    }

    private int openFrame(int region, int owner, int site) {
      int slots = graph.layout.slots[graph.layout.template[region]];
      return frames.add(store.take(slots), owner, site);
    }

    private void enter(int inFrame, int region) {
      int leaf = graph.layout.firstLeaf[region];
      for (int i = 0; i < MOST_NODES && leaf != NONE; i++) {
        awake = chains.add(inFrame * MOST_NODES + leaf, awake);
        leaf = graph.nextLeaf[leaf];
      }
    }

    private void makeReady(int inFrame, int event) {
      if (readySize < ready.length) {
        ready[readySize] = inFrame * MOST_NODES + event;
        readySize++;
      }
    }

    private void send(int toFrame, int toNode, int newSort, long newWord) {
      moving = true;
      frame = toFrame;
      node = toNode;
      sort = newSort;
      word = newWord;
    }

    /** Stores what others may wait for. */
    private void settle(int slot, int newSort, long newWord) {
      int link = (int) store.word[slot];
      for (int i = 0; i < MOST_STEPS && link != 0; i++) {
        int rest = chains.next[link];
        chains.next[link] = awake;
        awake = link;
        link = rest;
      }
      store.put(slot, newSort, newWord);
    }

    private void await(int slot, int inFrame, int waiting) {
      int who = inFrame * MOST_NODES + waiting;
      store.word[slot] = chains.add(who, (int) store.word[slot]);
    }

    // What goes on without an EVENT.

    private void flow() {
      for (int i = 0; i < MOST_STEPS && (moving || awake != 0); i++) {
        if (moving) {
          move();
        } else {
          int link = awake;
          int who = chains.who[link];
          awake = chains.next[link];
          chains.release(link);
          visit(who / MOST_NODES, who % MOST_NODES);
        }
      }
    }

    private void visit(int inFrame, int leaf) {
      switch (graph.kind[leaf]) {
        case Graph.CONSTANT:
          send(inFrame, leaf, graph.type[leaf], graph.number[leaf]);
          break;
        case Graph.USE:
          lookUp(inFrame, leaf);
          break;
        case Graph.LOOP:
          beginLoop(inFrame, leaf);
          break;
        default:
          makeReady(inFrame, leaf);
          break;
      }
    }

    private void lookUp(int inFrame, int use) {
      int variable = graph.left[use];
      int inner = graph.layout.depth[graph.template[use]];
      int outer = graph.layout.depth[graph.template[variable]];
      int slot = slotOf(frames.outward(inFrame, inner - outer), variable);
      if (store.sort[slot] == Store.MISSING) {
        await(slot, inFrame, use);
      } else {
        send(inFrame, use, store.sort[slot], store.word[slot]);
      }
    }

    private void beginLoop(int inFrame, int loop) {
      int region = graph.region[loop];
      int round = openFrame(region, inFrame, loop);
      store.word[slotOf(inFrame, loop) + 1] = round;
      int variable = graph.left[loop];
      for (int i = 0; i < MOST_NAMES && variable != NONE; i++) {
        if (graph.role[graph.left[variable]] == Graph.HAND_IN) {
          handIn(inFrame, graph.left[variable], round);
        }
        variable = graph.sibling[variable];
      }
      enter(round, region);
    }

    /** Gives a value that came ahead of the frame that takes it. */
    private void handIn(int inFrame, int from, int toFrame) {
      int slot = slotOf(inFrame, from);
      if (store.sort[slot] != Store.MISSING) {
        settle(slotOf(toFrame, graph.target[from]), store.sort[slot], store.word[slot]);
      }
    }

    private void move() {
      int parent = graph.parent[node];
      moving = false;
      store.put(slotOf(frame, node), sort, word);
      switch (graph.role[node]) {
        case Graph.SOLE:
          makeReady(frame, parent);
          break;
        case Graph.PAIR:
          meet(parent);
          break;
        case Graph.PASS:
          send(frame, parent, sort, word);
          break;
        case Graph.BIND:
          settle(slotOf(frame, graph.target[node]), sort, word);
          break;
        case Graph.HAND_IN:
          int inner = (int) store.word[slotOf(frame, parent) + 1];
          if (inner != 0) {
            handIn(frame, node, inner);
          }
          break;
        case Graph.NEXT:
          handIn(frame, node, frames.following[frame]);
          break;
        case Graph.GIVE:
          send(frames.owner[frame], parent, sort, word);
          break;
        case Graph.CELL:
          settle(frames.site[frame], sort, word);
          break;
        default:
          leaveFunction();
          break;
      }
    }

    private void leaveFunction() {
      if (frames.owner[frame] == NONE) {
        resultSort = sort;
        resultWord = word;
      } else {
        send(frames.owner[frame], frames.site[frame], sort, word);
      }
    }

    /** A token meets its partner, if that is there. */
    private void meet(int parent) {
      int left = slotOf(frame, graph.left[parent]);
      int right = slotOf(frame, graph.right[parent]);
      if (store.sort[left] == Store.MISSING || store.sort[right] == Store.MISSING) {
        return;
      }
      int cell = graph.kind[parent] == Graph.ELEMENT ? cellAt(left, right) : NONE;
      if (cell != NONE && store.sort[cell] == Store.MISSING) {
        await(cell, frame, parent);
      } else {
        makeReady(frame, parent);
      }
    }

    /** The slot of the cell, NONE if there is no such one. */
    private int cellAt(int left, int right) {
      long index = store.word[right];
      boolean isError = store.sort[left] == ERROR || store.sort[right] == ERROR;
      if (isError || index < 0 || index >= Store.cellsIn(store.word[left])) {
        return NONE;
      }
      return Store.firstCell(store.word[left]) + (int) index;
    }

    // The EVENTS.

    private void happen(int which) {
      int inFrame = ready[which] / MOST_NODES;
      int event = ready[which] % MOST_NODES;
      readySize--;
      ready[which] = ready[readySize];
      switch (graph.kind[event]) {
        case Graph.UNARY:
          turn(inFrame, event);
          break;
        case Graph.BINARY:
          operate(inFrame, event);
          break;
        case Graph.ELEMENT:
          pickCell(inFrame, event);
          break;
        case Graph.CHOICE:
          choose(inFrame, event);
          break;
        case Graph.CALL:
          enterFunction(inFrame, event);
          break;
        case Graph.LOOP:
          endRound(inFrame, event);
          break;
        case Graph.TAB:
          makeTable(inFrame, event);
          break;
        default:
          enterCell(inFrame, event);
          break;
      }
    }

    private void turn(int inFrame, int event) {
      int slot = slotOf(inFrame, graph.left[event]);
      long operand = store.word[slot];
      if (store.sort[slot] == ERROR) {
        send(inFrame, event, ERROR, operand);
      } else if (graph.number[event] == '-') {
        send(inFrame, event, NUMBER, -operand);
      } else {
        send(inFrame, event, TRUTH, 1 - operand);
      }
    }

    private void operate(int inFrame, int event) {
      int left = slotOf(inFrame, graph.left[event]);
      int right = slotOf(inFrame, graph.right[event]);
      int sign = (int) graph.number[event];
      if (store.sort[left] == ERROR || store.sort[right] == ERROR) {
        send(inFrame, event, ERROR, leastError(left, right));
      } else if ((sign == '/' || sign == '%') && store.word[right] == 0) {
        send(inFrame, event, ERROR, DIVIDED_BY_ZERO);
      } else {
        long result = calculate(sign, store.word[left], store.word[right]);
        send(inFrame, event, graph.type[event], result);
      }
    }

    private long leastError(int left, int right) {
      if (store.sort[left] != ERROR) {
        return store.word[right];
      }
      if (store.sort[right] != ERROR) {
        return store.word[left];
      }
      return Math.min(store.word[left], store.word[right]);
    }

    private static long calculate(int sign, long a, long b) {
      switch (sign) {
        case '|':
          return a | b;
        case '&':
          return a & b;
        case '=':
          return a == b ? 1 : 0;
        case '<':
          return a < b ? 1 : 0;
        case '+':
          return a + b;
        case '-':
          return a - b;
        case '*':
          return a * b;
        case '/':
          return b == 0 ? 0 : a / b;
        default:
          return b == 0 ? 0 : a % b;
      }
    }

    private void pickCell(int inFrame, int event) {
      int left = slotOf(inFrame, graph.left[event]);
      int right = slotOf(inFrame, graph.right[event]);
      int cell = cellAt(left, right);
      if (store.sort[left] == ERROR || store.sort[right] == ERROR) {
        send(inFrame, event, ERROR, leastError(left, right));
      } else if (cell == NONE) {
        send(inFrame, event, ERROR, NO_SUCH_CELL);
      } else {
        send(inFrame, event, store.sort[cell], store.word[cell]);
      }
    }

    private void choose(int inFrame, int event) {
      int slot = slotOf(inFrame, graph.left[event]);
      if (store.sort[slot] == ERROR) {
        send(inFrame, event, ERROR, store.word[slot]);
      } else {
        enter(inFrame, graph.region[event] + (store.word[slot] == 1 ? 0 : 1));
      }
    }

    private void enterFunction(int inFrame, int event) {
      int region = graph.layout.functionRegion[graph.right[event]];
      int inner = openFrame(region, inFrame, event);
      store.word[slotOf(inFrame, event) + 1] = inner;
      int argument = graph.left[event];
      for (int i = 0; i < MOST_NAMES && argument != NONE; i++) {
        handIn(inFrame, argument, inner);
        argument = graph.sibling[argument];
      }
      enter(inner, region);
    }

    /** The next round is entered with what is behind next: it does not wait for its values. */
    private void endRound(int round, int loop) {
      int slot = slotOf(round, graph.right[loop]);
      int region = graph.region[loop];
      if (store.sort[slot] == ERROR) {
        send(frames.owner[round], loop, ERROR, store.word[slot]);
      } else if (store.word[slot] == 0) {
        enter(round, region + 2);
      } else {
        int following = openFrame(region, frames.owner[round], loop);
        frames.following[round] = following;
        enter(round, region + 1);
        enter(following, region);
      }
    }

    private void makeTable(int inFrame, int event) {
      int slot = slotOf(inFrame, graph.left[event]);
      long cells = store.word[slot];
      if (store.sort[slot] == ERROR) {
        send(inFrame, event, ERROR, cells);
      } else if (cells < 0 || cells > Store.MOST_CELLS) {
        send(inFrame, event, ERROR, NO_SUCH_SIZE);
      } else {
        int first = store.take((int) cells);
        int index = graph.sibling[graph.right[event]];
        for (int i = 0; i < cells; i++) {
          makeReady(openFrame(graph.region[event], inFrame, first + i), index);
        }
        send(inFrame, event, TABLE, Store.tableOf(first, (int) cells));
      }
    }

    /** The EVENT of a cell is told by its variable of the index. */
    private void enterCell(int inFrame, int index) {
      int tab = graph.parent[index];
      long table = store.word[slotOf(frames.owner[inFrame], tab)];
      int place = frames.site[inFrame] - Store.firstCell(table);
      settle(slotOf(inFrame, index), NUMBER, place);
      settle(slotOf(inFrame, graph.right[tab]), TABLE, table);
      enter(inFrame, graph.region[tab]);
    }
  }
}
