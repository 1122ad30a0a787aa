public final class Promise01Construction {
  private static final int MIN = Integer.MIN_VALUE;
  private static final int MAX = Integer.MAX_VALUE;
  private static final int[] ANY = {MIN, -1, 0, 1, 2, 3, 4, 5, 6, 15, 16, 17, 31, 32, 33, 1000, MAX};

  public static void main(String[] args) {
    Check.sentence("new OverloadPicker(maxMethods, maxNodes) accepts any two ints.", Promise01Construction::acceptsAny);
    Check.sentence("maxMethods is clamped to 2..16 and maxNodes to 4..32.", Promise01Construction::keepsWhatIsWithin);
    Check.sentence("A value below the least becomes the least", Promise01Construction::tooSmall);
    Check.sentence("a value above the greatest becomes the greatest", Promise01Construction::tooLarge);
    Check.sentence("they never change afterwards", Promise01Construction::neverChange);
    Check.sentence("The fresh object has no methods: methodCount() is 0.", Promise01Construction::noMethods);
    Check.sentence("The program is empty: nodeCount() is 0 and pending() is 1.", Promise01Construction::emptyProgram);
    Check.sentence("The program is UNRESOLVED.", Promise01Construction::unresolved);
    Check.sentence("lastPhase() is 0.", Promise01Construction::noPhase);
    Check.end();
  }

  private static void holds(int maxMethods, int maxNodes, int methods, int nodes) {
    OverloadPicker x = new OverloadPicker(maxMethods, maxNodes);
    String made = "new OverloadPicker(" + maxMethods + ", " + maxNodes + "): ";
    Check.due(made + "methods", fillMethods(x), methods);
    Check.due(made + "methodCount()", x.methodCount(), methods);
    Check.due(made + "calls", fillWithCalls(x), nodes);
    Check.due(made + "nodeCount()", x.nodeCount(), nodes);
    x.clearProgram();
    Check.due(made + "literals in a call", fillWithLiterals(x), nodes);
  }

  /** How many calls of addMethod are answered by an id. */
  private static int fillMethods(OverloadPicker x) {
    int count = 0;
    for (int i = 0; i < 20; i++) {
      count += x.addMethod(i % 8, 1 + i / 8, 4, 0) >= 0 ? 1 : 0;
    }
    return count;
  }

  private static int fillWithCalls(OverloadPicker x) {
    int count = 0;
    for (int i = 0; i < 40; i++) {
      count += x.addCall(0, 2) >= 0 ? 1 : 0;
    }
    return count;
  }

  /** Calls of four arguments keep room for the literals that use up the rest. */
  private static int fillWithLiterals(OverloadPicker x) {
    int count = 0;
    for (int i = 0; i < 40; i++) {
      int answer = i % 4 == 0 ? x.addCall(0, 4) : x.addLiteral(4, i);
      count += answer >= 0 ? 1 : 0;
    }
    return count;
  }

  private static void acceptsAny() {
    for (int maxMethods : ANY) {
      for (int maxNodes : ANY) {
        holds(maxMethods, maxNodes, Math.max(2, Math.min(16, maxMethods)), Math.max(4, Math.min(32, maxNodes)));
      }
    }
  }

  private static void keepsWhatIsWithin() {
    for (int methods = 2; methods <= 16; methods++) {
      holds(methods, 4, methods, 4);
    }
    for (int nodes = 4; nodes <= 32; nodes++) {
      holds(2, nodes, 2, nodes);
    }
  }

  private static void tooSmall() {
    for (int value : new int[] {MIN, MIN + 1, -32, -16, -2, -1, 0, 1}) {
      holds(value, 10, 2, 10);
      holds(10, value, 10, 4);
    }
    holds(10, 2, 10, 4);
    holds(10, 3, 10, 4);
    holds(MIN, MIN, 2, 4);
  }

  private static void tooLarge() {
    for (int value : new int[] {33, 34, 64, 256, 65536, MAX - 1, MAX}) {
      holds(value, 10, 16, 10);
      holds(10, value, 10, 32);
    }
    holds(17, 10, 16, 10);
    holds(MAX, MAX, 16, 32);
    holds(MIN, MAX, 2, 32);
    holds(MAX, MIN, 16, 4);
  }

  private static void neverChange() {
    OverloadPicker x = new OverloadPicker(3, 5);
    for (int time = 0; time < 3; time++) {
      Check.due("methods", fillMethods(x), time == 0 ? 3 : 0);
      Check.due("methodCount()", x.methodCount(), 3);
      Check.due("calls", fillWithCalls(x), 5);
      x.resolve();
      x.clearProgram();
      x.addCall(0, 1);
      x.addLiteral(1, 1);
      Check.due("resolve()", x.resolve(), OverloadPicker.OK);
      x.pick(0, 1);
      x.clearProgram();
      Check.due("literals in a call", fillWithLiterals(x), 5);
      x.clearProgram();
    }
  }

  private static void noMethods() {
    for (int value : ANY) {
      OverloadPicker x = new OverloadPicker(value, value);
      Check.due("methodCount()", x.methodCount(), 0);
      for (int name = 0; name < 8; name++) {
        Check.picked(x, name, 0, OverloadPicker.NO_MATCH, 0);
        Check.picked(x, name, 0x4, OverloadPicker.NO_MATCH, 0);
      }
    }
  }

  private static void emptyProgram() {
    for (int value : ANY) {
      OverloadPicker x = new OverloadPicker(value, value);
      Check.program(x, 0, 1);
      Check.absent(x, 0);
      Check.refused("resolve()", x.resolve());
      Check.due("the first node", x.addLiteral(4, 1), 0);
    }
  }

  /** An empty program has no node to read it from, so it shows on the first node alone. */
  private static void unresolved() {
    OverloadPicker x = new OverloadPicker(2, 4);
    x.addLiteral(4, 1);
    Check.unresolved(x, 0);
  }

  private static void noPhase() {
    for (int value : ANY) {
      Check.due("lastPhase()", new OverloadPicker(value, value).lastPhase(), 0);
    }
  }
}
