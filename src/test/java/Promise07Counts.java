public final class Promise07Counts {
  public static void main(String[] args) {
    OverloadPicker x = new OverloadPicker(2, 32);
    Check.program(x, 0, 1);
    // f(g(1, h()), 2, k(3)) node by node, with the pending count after each.
    int[] argc = {3, 2, -1, 0, -1, 1, -1};
    int[] pending = {3, 4, 3, 2, 1, 1, 0};
    for (int i = 0; i < argc.length; i++) {
      Check.due("add no. " + i, argc[i] < 0 ? x.addLiteral(4, i) : x.addCall(0, argc[i]), i);
      Check.program(x, i + 1, pending[i]);
      Check.program(x, i + 1, pending[i]);
    }
    Check.due("addLiteral on a complete program", x.addLiteral(4, 1), OverloadPicker.REFUSED);
    Check.program(x, 7, 0);
    Check.due("resolve()", x.resolve(), OverloadPicker.ARG_ERROR);
    Check.program(x, 7, 0);
    Check.due("nodeStatus(0) after the counts", x.nodeStatus(0), OverloadPicker.ARG_ERROR);
    x.clearProgram();
    Check.program(x, 0, 1);
    x.addCall(0, 4);
    Check.program(x, 1, 4);
    greatestPending();
    Check.end();
  }

  private static void greatestPending() {
    OverloadPicker x = new OverloadPicker(2, 32);
    for (int i = 0; i < 40; i++) {
      x.addCall(7, 4);
    }
    Check.program(x, 32, 97);
  }
}
