public final class Promise08Clearing {
  public static void main(String[] args) {
    OverloadPicker x = new OverloadPicker(2, 4);
    cleared(x, 0, 0);
    x.addMethod(0, 0x4, 4, 2);
    x.pick(0, 0xA);
    cleared(x, 1, 2);
    x.addCall(0, 1);
    cleared(x, 1, 2);
    x.addCall(0, 1);
    x.addLiteral(4, 5);
    cleared(x, 1, 2);
    x.addCall(0, 1);
    x.addLiteral(4, 5);
    x.resolve();
    cleared(x, 1, 2);
    for (int i = 0; i < 4; i++) {
      x.addCall(0, 4);
    }
    cleared(x, 1, 2);
    // The old results must not show through a new program.
    x.addCall(0, 1);
    x.addLiteral(4, 6);
    Check.unresolved(x, 0);
    Check.unresolved(x, 1);
    Check.due("resolve()", x.resolve(), OverloadPicker.OK);
    Check.node(x, 0, OverloadPicker.OK, 0, 4, 1, 8L);
    Check.picked(x, 0, 0x4, 0, 1);
    Check.end();
  }

  private static void cleared(OverloadPicker x, int methods, int phase) {
    for (int time = 0; time < 2; time++) {
      x.clearProgram();
      Check.program(x, 0, 1);
      Check.due("methodCount()", x.methodCount(), methods);
      Check.due("lastPhase()", x.lastPhase(), phase);
      Check.node(x, 0, OverloadPicker.REFUSED, -1, 0, 0, 0L);
      Check.due("resolve()", x.resolve(), OverloadPicker.REFUSED);
    }
  }
}
