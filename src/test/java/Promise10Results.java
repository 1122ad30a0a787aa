public final class Promise10Results {
  private static final int[] OUTSIDE = {Integer.MIN_VALUE, -33, -1, 3, 4, 31, 32, 33, Integer.MAX_VALUE};

  public static void main(String[] args) {
    OverloadPicker x = new OverloadPicker(16, 32);
    absent(x, 0);
    allAbsent(x);
    x.addMethod(0, 0x54, 5, 1);
    x.addCall(0, 2);
    x.addLiteral(4, 10);
    Check.unresolved(x, 0);
    Check.unresolved(x, 1);
    absent(x, 2);
    x.addLiteral(5, 20);
    for (int i = 0; i < 3; i++) {
      Check.unresolved(x, i);
    }
    allAbsent(x);
    x.resolve();
    readsTheResults(x);
    allAbsent(x);
    readsTheResults(x);
    refusedCallsKeepThem(x);
    x.addMethod(1, 0x4, 4, 0);
    for (int i = 0; i < 3; i++) {
      Check.unresolved(x, i);
    }
    x.resolve();
    readsTheResults(x);
    x.clearProgram();
    absent(x, 0);
    allAbsent(x);
    Check.end();
  }

  private static void absent(OverloadPicker x, int i) {
    Check.node(x, i, OverloadPicker.REFUSED, -1, 0, 0, 0L);
  }

  private static void allAbsent(OverloadPicker x) {
    for (int i : OUTSIDE) {
      absent(x, i);
    }
  }

  private static void readsTheResults(OverloadPicker x) {
    Check.node(x, 0, OverloadPicker.OK, 0, 5, 1, 31L);
    Check.node(x, 1, OverloadPicker.OK, -1, 4, 0, 10L);
    Check.node(x, 2, OverloadPicker.OK, -1, 5, 0, 20L);
    Check.program(x, 3, 0);
    Check.due("lastPhase()", x.lastPhase(), 0);
  }

  private static void refusedCallsKeepThem(OverloadPicker x) {
    x.addMethod(0, 0x54, 4, 9);
    x.addMethod(9, 0x54, 4, 9);
    x.addLiteral(4, 1);
    x.addLiteral(0, 1);
    x.addCall(0, 0);
    x.addCall(8, 9);
    x.pick(9, 0);
    readsTheResults(x);
  }
}
