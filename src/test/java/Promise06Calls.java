public final class Promise06Calls {
  private static final int REFUSED = OverloadPicker.REFUSED;

  public static void main(String[] args) {
    acceptsEveryNameAndLength();
    refusesWrongArguments();
    refusesWhenComplete();
    refusesWhenFull();
    keepsTheRest();
    Check.end();
  }

  private static void acceptsEveryNameAndLength() {
    OverloadPicker x = new OverloadPicker(2, 4);
    for (int name = 0; name < 8; name++) {
      for (int argc = 0; argc <= 4; argc++) {
        x.clearProgram();
        Check.due("addCall(" + name + ", " + argc + ")", x.addCall(name, argc), 0);
        Check.program(x, 1, argc);
        Check.unresolved(x, 0);
      }
    }
    x.clearProgram();
    x.addCall(0, 3);
    Check.due("addCall(1, 2)", x.addCall(1, 2), 1);
    Check.program(x, 2, 4);
    Check.due("addCall(1, 0)", x.addCall(1, 0), 2);
    Check.program(x, 3, 3);
  }

  private static void refusesWrongArguments() {
    OverloadPicker x = new OverloadPicker(2, 4);
    for (int name : new int[] {Integer.MIN_VALUE, -1, 8, 9, Integer.MAX_VALUE}) {
      Check.due("addCall(" + name + ", 0)", x.addCall(name, 0), REFUSED);
    }
    for (int argc : new int[] {Integer.MIN_VALUE, -1, 5, 6, Integer.MAX_VALUE}) {
      Check.due("addCall(0, " + argc + ")", x.addCall(0, argc), REFUSED);
    }
    Check.program(x, 0, 1);
  }

  private static void refusesWhenComplete() {
    OverloadPicker x = new OverloadPicker(2, 4);
    x.addMethod(0, 0, 4, 3);
    Check.due("addCall(0, 0)", x.addCall(0, 0), 0);
    Check.program(x, 1, 0);
    Check.due("addCall on a complete program", x.addCall(0, 0), REFUSED);
    Check.due("addCall on a complete program", x.addCall(0, 1), REFUSED);
    Check.due("resolve()", x.resolve(), OverloadPicker.OK);
    Check.due("addCall on a resolved program", x.addCall(0, 1), REFUSED);
    Check.program(x, 1, 0);
    Check.node(x, 0, OverloadPicker.OK, 0, 4, 1, 3L);
  }

  private static void refusesWhenFull() {
    OverloadPicker x = new OverloadPicker(2, 5);
    for (int i = 0; i < 5; i++) {
      Check.due("addCall(0, 4)", x.addCall(0, 4), i);
      Check.program(x, i + 1, 4 + 3 * i);
    }
    Check.due("addCall on a full program", x.addCall(0, 0), REFUSED);
    Check.program(x, 5, 16);
    Check.due("resolve()", x.resolve(), REFUSED);
    x.clearProgram();
    Check.due("addCall after clearProgram()", x.addCall(0, 0), 0);
  }

  private static void keepsTheRest() {
    OverloadPicker x = new OverloadPicker(2, 4);
    x.addMethod(0, 0x4, 4, 0);
    x.pick(0, 0xA);
    x.addCall(0, 1);
    Check.due("methodCount()", x.methodCount(), 1);
    Check.due("lastPhase()", x.lastPhase(), 2);
    Check.unresolved(x, 0);
  }
}
