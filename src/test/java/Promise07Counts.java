public final class Promise07Counts {
  public static void main(String[] args) {
    Check.sentence("pending() answers the current pending value, as defined in Promise 5.", Promise07Counts::currentPending);
    Check.sentence("It is 1 for an empty program", Promise07Counts::oneWhenEmpty);
    Check.sentence("and 0 exactly when the program, if non-empty, is complete.", Promise07Counts::zeroWhenComplete);
    Check.sentence("nodeCount() answers the number of nodes added since construction or the last clearProgram().",
        Promise07Counts::nodesSinceTheLastClear);
    Check.sentence("Neither changes anything.", Promise07Counts::neitherChanges);
    Check.end();
  }

  private static void currentPending() {
    OverloadPicker x = new OverloadPicker(2, 32);
    // f(g(1, h()), 2, k(3)) node by node, with the pending count after each.
    int[] argc = {3, 2, -1, 0, -1, 1, -1};
    int[] pending = {3, 4, 3, 2, 1, 1, 0};
    for (int i = 0; i < argc.length; i++) {
      Check.due("add no. " + i, argc[i] < 0 ? x.addLiteral(4, i) : x.addCall(0, argc[i]), i);
      Check.due("pending()", x.pending(), pending[i]);
    }
    x.resolve();
    Check.due("pending() of a resolved program", x.pending(), 0);
    // The greatest that there is.
    x.clearProgram();
    for (int i = 0; i < 40; i++) {
      x.addCall(7, 4);
      Check.due("pending()", x.pending(), Math.min(97, 4 + 3 * i));
    }
  }

  private static void oneWhenEmpty() {
    Check.due("pending() of a new object", States.fresh().pending(), 1);
    Check.due("pending() without a node", States.declared().pending(), 1);
    States.all().forEach((name, state) -> {
      OverloadPicker x = state.get();
      x.clearProgram();
      Check.due("pending() after clearProgram() when " + name, x.pending(), 1);
    });
    OverloadPicker x = States.fresh();
    x.addLiteral(0, 1);
    x.addCall(8, 1);
    x.resolve();
    Check.due("pending() after refused calls", x.pending(), 1);
  }

  private static void zeroWhenComplete() {
    OverloadPicker x = new OverloadPicker(2, 32);
    x.addLiteral(4, 1);
    Check.due("pending() of a literal", x.pending(), 0);
    for (int argc = 0; argc <= 4; argc++) {
      x.clearProgram();
      x.addCall(0, argc);
      for (int given = 0; given < argc; given++) {
        Check.due("pending() is 0 before the last argument", x.pending() == 0, false);
        Check.refused("resolve()", x.resolve());
        x.addLiteral(4, 1);
      }
      Check.due("pending() with every argument", x.pending(), 0);
      Check.due("resolve()", x.resolve(), OverloadPicker.NO_MATCH);
    }
    States.all().forEach((name, state) -> {
      OverloadPicker y = state.get();
      boolean zero = y.pending() == 0;
      Check.due("pending() is 0 when " + name, zero, y.resolve() != OverloadPicker.REFUSED);
    });
  }

  private static void nodesSinceTheLastClear() {
    OverloadPicker x = new OverloadPicker(2, 32);
    for (int nodes = 0; nodes <= 32; nodes++) {
      Check.due("nodeCount() of an empty program", x.nodeCount(), 0);
      for (int i = 0; i < nodes; i++) {
        Check.due("nodeCount() before", x.nodeCount(), i);
        Check.due("add", i % 3 == 2 ? x.addLiteral(4, 1) : x.addCall(0, 2), i);
        Check.due("nodeCount() after", x.nodeCount(), i + 1);
        x.addLiteral(0, 1);
        x.addCall(0, 5);
        x.addMethod(0, nodes % 2, 4, 0);
        Check.due("nodeCount() after refused calls", x.nodeCount(), i + 1);
      }
      x.clearProgram();
    }
    for (int i = 0; i < 40; i++) {
      x.addCall(0, 4);
    }
    Check.due("nodeCount() of a full program", x.nodeCount(), 32);
  }

  private static void neitherChanges() {
    States.neverChanged("pending()", OverloadPicker::pending);
    States.neverChanged("nodeCount()", OverloadPicker::nodeCount);
  }
}
