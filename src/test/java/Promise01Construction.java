public final class Promise01Construction {
  private static final int[] ARGUMENTS = {
    Integer.MIN_VALUE, -1, 0, 1, 2, 3, 4, 5, 6, 15, 16, 17, 31, 32, 33, 1000, Integer.MAX_VALUE
  };

  public static void main(String[] args) {
    for (int maxMethods : ARGUMENTS) {
      for (int maxNodes : ARGUMENTS) {
        OverloadPicker x = new OverloadPicker(maxMethods, maxNodes);
        startsEmpty(x);
        holdsMethods(x, Math.max(2, Math.min(16, maxMethods)));
        holdsNodes(x, Math.max(4, Math.min(32, maxNodes)));
        x.clearProgram();
        holdsNodes(x, Math.max(4, Math.min(32, maxNodes)));
      }
    }
    Check.end();
  }

  private static void startsEmpty(OverloadPicker x) {
    Check.due("methodCount()", x.methodCount(), 0);
    Check.program(x, 0, 1);
    Check.due("lastPhase()", x.lastPhase(), 0);
    Check.due("resolve() on a new object", x.resolve(), OverloadPicker.REFUSED);
    Check.node(x, 0, OverloadPicker.REFUSED, -1, 0, 0, 0L);
  }

  private static void holdsMethods(OverloadPicker x, int capacity) {
    for (int id = 0; id < capacity; id++) {
      Check.due("addMethod no. " + id, x.addMethod(id % 8, 1 + id / 8, 4, 0), id);
    }
    Check.due("addMethod over capacity", x.addMethod(0, 14, 4, 0), OverloadPicker.REFUSED);
    Check.due("methodCount()", x.methodCount(), capacity);
  }

  private static void holdsNodes(OverloadPicker x, int capacity) {
    for (int i = 0; i < capacity; i++) {
      Check.due("addCall no. " + i, x.addCall(0, 2), i);
    }
    Check.due("addCall over capacity", x.addCall(0, 2), OverloadPicker.REFUSED);
    Check.due("addLiteral over capacity", x.addLiteral(4, 0), OverloadPicker.REFUSED);
    Check.program(x, capacity, capacity + 1);
  }
}
