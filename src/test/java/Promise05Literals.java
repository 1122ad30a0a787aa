public final class Promise05Literals {
  private static final int REFUSED = OverloadPicker.REFUSED;
  private static final int MIN = Integer.MIN_VALUE;
  private static final int MAX = Integer.MAX_VALUE;

  public static void main(String[] args) {
    for (int boxed = 0; boxed <= 6; boxed += 6) {
      narrows(1 + boxed, new int[] {0, 127, 128, 255, 256, -1, -128, -129, MIN, MAX}, new long[] {0, 127, -128, -1, 0, -1, -128, 127, 0, -1});
      narrows(2 + boxed, new int[] {32767, 32768, 65535, 65536, -32768, -32769, MIN, MAX}, new long[] {32767, -32768, -1, 0, -32768, 32767, 0, -1});
      narrows(3 + boxed, new int[] {-1, 65535, 65536, 65537, -32768, MIN, MAX}, new long[] {65535, 65535, 0, 1, 32768, 0, 65535});
      narrows(4 + boxed, new int[] {0, -1, MIN, MAX}, new long[] {0, -1, MIN, MAX});
      narrows(5 + boxed, new int[] {0, -1, MIN, MAX}, new long[] {0, -1, MIN, MAX});
      narrows(6 + boxed, new int[] {-1, 0, 1, 2, 3, MIN, MAX}, new long[] {1, 0, 1, 0, 1, 0, 1});
    }
    narrows(13, new int[] {-1, 70000, MIN, MAX}, new long[] {-1, 70000, MIN, MAX});
    narrows(14, new int[] {-1, 70000, MIN, MAX}, new long[] {-1, 70000, MIN, MAX});
    refusesWrongTypes();
    refusesWhenCompleteOrFull();
    endsOnlyTheResults();
    Check.end();
  }

  private static void narrows(int type, int[] given, long[] due) {
    OverloadPicker x = new OverloadPicker(2, 4);
    for (int i = 0; i < given.length; i++) {
      x.clearProgram();
      Check.due("addLiteral(" + type + ", " + given[i] + ")", x.addLiteral(type, given[i]), 0);
      Check.due("resolve()", x.resolve(), OverloadPicker.OK);
      Check.node(x, 0, OverloadPicker.OK, -1, type, 0, due[i]);
    }
  }

  private static void refusesWrongTypes() {
    OverloadPicker x = new OverloadPicker(2, 4);
    for (int type : new int[] {MIN, -1, 0, 15, 16, 20, MAX}) {
      Check.due("addLiteral(" + type + ", 1)", x.addLiteral(type, 1), REFUSED);
    }
    Check.program(x, 0, 1);
  }

  private static void refusesWhenCompleteOrFull() {
    OverloadPicker x = new OverloadPicker(2, 4);
    Check.due("addLiteral", x.addLiteral(4, 5), 0);
    Check.due("addLiteral on a complete program", x.addLiteral(4, 6), REFUSED);
    x.resolve();
    Check.due("addLiteral on a resolved program", x.addLiteral(4, 6), REFUSED);
    Check.program(x, 1, 0);
    Check.node(x, 0, OverloadPicker.OK, -1, 4, 0, 5L);
    x.clearProgram();
    x.addCall(0, 4);
    for (int i = 1; i < 4; i++) {
      Check.due("addLiteral", x.addLiteral(4, 5), i);
      Check.program(x, i + 1, 4 - i);
    }
    Check.due("addLiteral on a full program", x.addLiteral(4, 5), REFUSED);
    Check.program(x, 4, 1);
  }

  private static void endsOnlyTheResults() {
    OverloadPicker x = new OverloadPicker(2, 4);
    x.addMethod(0, 0x44, 4, 0);
    x.pick(0, 0x4A);
    x.addCall(0, 2);
    Check.due("addLiteral", x.addLiteral(4, 1), 1);
    Check.unresolved(x, 0);
    Check.unresolved(x, 1);
    Check.program(x, 2, 1);
    Check.due("methodCount()", x.methodCount(), 1);
    Check.due("lastPhase()", x.lastPhase(), 2);
    Check.due("addLiteral", x.addLiteral(4, 2), 2);
    Check.unresolved(x, 2);
    Check.due("resolve()", x.resolve(), OverloadPicker.OK);
    Check.node(x, 0, OverloadPicker.OK, 0, 4, 1, 3L);
  }
}
