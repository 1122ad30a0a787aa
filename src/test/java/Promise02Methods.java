public final class Promise02Methods {
  private static final int REFUSED = OverloadPicker.REFUSED;

  public static void main(String[] args) {
    refusesWrongNames();
    refusesWrongLists();
    refusesWrongReturns();
    refusesVarargsWithoutParameter();
    refusesTwins();
    refusesWhenFull();
    keepsAnyConstant();
    endsOnlyTheResults();
    Check.end();
  }

  private static void refused(OverloadPicker x, int name, int params, int retFlags) {
    int before = x.methodCount();
    Check.due("addMethod(" + name + ", " + params + ", " + retFlags + ")", x.addMethod(name, params, retFlags, 1), REFUSED);
    Check.due("methodCount() after a refusal", x.methodCount(), before);
  }

  private static void refusesWrongNames() {
    OverloadPicker x = new OverloadPicker(16, 32);
    for (int name : new int[] {Integer.MIN_VALUE, -1, 8, 9, 16, Integer.MAX_VALUE}) {
      refused(x, name, 4, 4);
    }
    for (int name = 0; name < 8; name++) {
      Check.due("addMethod of name " + name, x.addMethod(name, 4, 4, 0), name);
    }
  }

  private static void refusesWrongLists() {
    OverloadPicker x = new OverloadPicker(16, 32);
    int[] wrong = {
      -1, Integer.MIN_VALUE, Integer.MIN_VALUE + 4, 0xF, 0xF4, 0x4F4, 0xF444, 0x40, 0x404, 0x4044, 0x4004, 0x4000,
      0x44444, 0x10000, 0x14444, 0x104444, 0x10004444, 0x444444, 0x4444444, 0x44444444, 0x40000004, 0x70000000
    };
    for (int params : wrong) {
      refused(x, 0, params, 4);
      refused(x, 0, params, 20);
    }
    int[] right = {0, 1, 0xE, 0x1E, 0xE1, 0xE1E, 0xEEEE, 0x1111, 0x4444};
    for (int i = 0; i < right.length; i++) {
      Check.due("addMethod of list " + right[i], x.addMethod(0, right[i], 4, 0), i);
    }
  }

  private static void refusesWrongReturns() {
    OverloadPicker x = new OverloadPicker(16, 32);
    int[] wrong = {0, 15, 16, 31, 32, 36, 64 + 4, 128 + 20, (1 << 30) + 4, -1, -12, -28, Integer.MIN_VALUE + 4, Integer.MAX_VALUE};
    for (int retFlags : wrong) {
      refused(x, 0, 4, retFlags);
    }
    for (int type = 1; type <= 14; type++) {
      Check.due("addMethod of return " + type, x.addMethod(0, type, type, 0), type - 1);
    }
    Check.due("addMethod of varargs return 1", x.addMethod(0, 1, 17, 0), 14);
    Check.due("addMethod of varargs return 14", x.addMethod(0, 14, 30, 0), 15);
  }

  private static void refusesVarargsWithoutParameter() {
    OverloadPicker x = new OverloadPicker(16, 32);
    refused(x, 0, 0, 16 + 4);
    Check.due("addMethod without parameters", x.addMethod(0, 0, 4, 0), 0);
    refused(x, 0, 0, 16 + 4);
  }

  private static void refusesTwins() {
    OverloadPicker x = new OverloadPicker(16, 32);
    Check.due("a method", x.addMethod(3, 0x54, 4, 0), 0);
    refused(x, 3, 0x54, 4);
    refused(x, 3, 0x54, 5);
    Check.due("the same as varargs", x.addMethod(3, 0x54, 20, 0), 1);
    refused(x, 3, 0x54, 21);
    Check.due("the same of another name", x.addMethod(4, 0x54, 4, 0), 2);
    Check.due("the types the other way round", x.addMethod(3, 0x45, 4, 0), 3);
    Check.due("a beginning of the list", x.addMethod(3, 0x4, 4, 0), 4);
    Check.due("a longer list", x.addMethod(3, 0x154, 4, 0), 5);
    refused(x, 3, 0x54, 4);
    refused(x, 3, 0x154, 14);
  }

  private static void refusesWhenFull() {
    OverloadPicker x = new OverloadPicker(2, 4);
    x.addMethod(0, 4, 4, 0);
    x.addMethod(0, 5, 4, 0);
    refused(x, 0, 6, 4);
    refused(x, 0, 4, 4);
    refused(x, -1, -1, -1);
    Check.picked(x, 0, 6, OverloadPicker.NO_MATCH, 0);
  }

  private static void keepsAnyConstant() {
    for (int constant : new int[] {Integer.MIN_VALUE, -1, 0, 1, Integer.MAX_VALUE}) {
      OverloadPicker x = new OverloadPicker(2, 4);
      Check.due("addMethod", x.addMethod(0, 0, 5, constant), 0);
      x.addCall(0, 0);
      Check.due("resolve()", x.resolve(), OverloadPicker.OK);
      Check.due("nodeValue(0)", x.nodeValue(0), constant);
    }
  }

  private static void endsOnlyTheResults() {
    OverloadPicker x = new OverloadPicker(3, 8);
    x.addMethod(0, 0x4, 4, 7);
    x.pick(0, 0xA);
    x.addCall(0, 1);
    x.addLiteral(4, 1);
    x.resolve();
    refused(x, 0, 0x4, 4);
    Check.node(x, 0, OverloadPicker.OK, 0, 4, 1, 8L);
    Check.due("addMethod", x.addMethod(1, 0x4, 4, 7), 1);
    Check.unresolved(x, 0);
    Check.unresolved(x, 1);
    Check.program(x, 2, 0);
    Check.due("lastPhase()", x.lastPhase(), 2);
    Check.due("resolve()", x.resolve(), OverloadPicker.OK);
    Check.node(x, 0, OverloadPicker.OK, 0, 4, 1, 8L);
    x.clearProgram();
    x.addCall(0, 2);
    Check.due("addMethod amid a program", x.addMethod(2, 0x4, 4, 7), 2);
    Check.program(x, 1, 2);
    Check.unresolved(x, 0);
  }
}
