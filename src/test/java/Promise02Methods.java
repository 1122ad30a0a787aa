import java.util.function.Supplier;

public final class Promise02Methods {
  private static final int MIN = Integer.MIN_VALUE;
  private static final int MAX = Integer.MAX_VALUE;

  public static void main(String[] args) {
    Check.sentence("bits 0..3 give the return type R and bit 4 (VARARGS_FLAG) is the varargs flag",
        Promise02Methods::returnAndFlag);
    Check.sentence("All other bits must be 0.", Promise02Methods::otherBits);
    Check.sentence("constant may be any int", Promise02Methods::anyConstant);
    Check.sentence("1. methodCount() equals the clamped maxMethods", Promise02Methods::full);
    Check.sentence("2. name is not in 0..7", Promise02Methods::wrongName);
    Check.sentence("3. params is not a valid encoding", Promise02Methods::wrongParams);
    Check.sentence("4. R is not in 1..14, or any bit other than bits 0..4 of retFlags is set", Promise02Methods::wrongReturn);
    Check.sentence("this includes every negative retFlags", Promise02Methods::negativeReturn);
    Check.sentence("5. the varargs flag is set and k == 0", Promise02Methods::varargsOfNothing);
    Check.sentence("6. an existing method has the same name, the same varargs flag and an identical parameter list",
        Promise02Methods::twins);
    Check.sentence("When refused, it answers REFUSED and changes nothing.", Promise02Methods::refusedChangesNothing);
    Check.sentence("Otherwise it stores the method and answers its id, which equals the old methodCount().",
        Promise02Methods::answersTheOldCount);
    Check.sentence("methodCount() grows by one.", Promise02Methods::growsByOne);
    Check.sentence("The program becomes UNRESOLVED, whether or not it is complete, and its nodes, nodeCount() and pending()"
        + " stay as they were.", Promise02Methods::endsOnlyTheResults);
    Check.sentence("lastPhase() does not change.", Promise02Methods::keepsLastPhase);
    Check.sentence("Methods are never removed.", Promise02Methods::neverRemoved);
    Check.sentence("methodCount() answers the number of methods stored so far, from 0 up to the clamped maxMethods.",
        Promise02Methods::countsToTheCapacity);
    Check.sentence("It changes nothing.", () -> States.neverChanged("methodCount()", OverloadPicker::methodCount));
    Check.end();
  }

  private static void refused(OverloadPicker x, int name, int params, int retFlags) {
    String call = "addMethod(" + name + ", 0x" + Integer.toHexString(params) + ", " + retFlags + ", 1)";
    int before = x.methodCount();
    Check.refused(call, x.addMethod(name, params, retFlags, 1));
    Check.due("methodCount() after " + call, x.methodCount(), before);
  }

  private static void returnAndFlag() {
    for (int type = 1; type <= 14; type++) {
      OverloadPicker x = new OverloadPicker(2, 4);
      Check.due("addMethod of " + type, x.addMethod(0, 0x4, type, 0), 0);
      Check.due("addMethod varargs of " + type, x.addMethod(1, 0x4, 16 + type, 0), 1);
      Check.picked(x, 0, 0x44, OverloadPicker.NO_MATCH, 0);
      Check.picked(x, 1, 0x44, 1, 3);
      x.addCall(0, 1);
      x.addLiteral(4, 0);
      x.resolve();
      Check.due("nodeType(0)", x.nodeType(0), type);
      x.clearProgram();
      x.addCall(1, 0);
      x.resolve();
      Check.due("nodeType(0) of varargs", x.nodeType(0), type);
    }
  }

  private static void otherBits() {
    OverloadPicker x = new OverloadPicker(16, 32);
    for (int bit = 5; bit < 32; bit++) {
      refused(x, 0, 0x4, 4 | 1 << bit);
      refused(x, 0, 0x4, 20 | 1 << bit);
    }
    Check.due("addMethod without another bit", x.addMethod(0, 0x4, 4, 0), 0);
    Check.due("addMethod with bit 4 alone", x.addMethod(0, 0x4, 20, 0), 1);
  }

  private static void anyConstant() {
    for (int constant : new int[] {MIN, MIN + 1, -1, 0, 1, MAX - 1, MAX}) {
      OverloadPicker x = new OverloadPicker(2, 4);
      Check.due("addMethod", x.addMethod(0, 0, 5, constant), 0);
      x.addCall(0, 0);
      Check.due("resolve()", x.resolve(), OverloadPicker.OK);
      Check.due("nodeValue(0)", x.nodeValue(0), constant);
    }
  }

  private static void full() {
    for (int capacity : new int[] {2, 3, 15, 16}) {
      OverloadPicker x = new OverloadPicker(capacity, 4);
      for (int id = 0; id < capacity; id++) {
        Check.due("addMethod no. " + id, x.addMethod(id % 8, 1 + id / 8, 4, 0), id);
      }
      refused(x, 0, 0xE, 4);
      refused(x, 7, 0, 14);
      refused(x, 0, 0x1, 4);
      refused(x, -1, -1, -1);
      Check.picked(x, 0, 0xE, OverloadPicker.NO_MATCH, 0);
    }
  }

  private static void wrongName() {
    OverloadPicker x = new OverloadPicker(16, 32);
    for (int name : new int[] {MIN, -8, -1, 8, 9, 15, 16, MAX}) {
      refused(x, name, 0x4, 4);
      refused(x, name, 0x4, 20);
    }
    Check.due("addMethod of name 0", x.addMethod(0, 0x4, 4, 0), 0);
    Check.due("addMethod of name 7", x.addMethod(7, 0x4, 4, 0), 1);
  }

  private static void wrongParams() {
    OverloadPicker x = new OverloadPicker(16, 32);
    int[] wrong = {
      -1, MIN, MIN + 4, 0xF, 0xF4, 0x4F4, 0xF444, 0x40, 0x404, 0x4044, 0x4004, 0x4000, 0x44444, 0x10000, 0x14444,
      0x104444, 0x10004444, 0x444444, 0x4444444, 0x44444444, 0x40000004, 0x70000000
    };
    for (int params : wrong) {
      refused(x, 0, params, 4);
      refused(x, 0, params, 20);
    }
    int[] right = {0, 0x1, 0xE, 0x1E, 0xE1, 0xE1E, 0xEEEE, 0x1111, 0x4444};
    for (int i = 0; i < right.length; i++) {
      Check.due("addMethod of list " + right[i], x.addMethod(0, right[i], 4, 0), i);
    }
  }

  private static void wrongReturn() {
    OverloadPicker x = new OverloadPicker(16, 32);
    for (int retFlags : new int[] {0, 15, 16, 31, 32, 33, 36, 46, 48, 64 + 4, 128 + 20, (1 << 30) + 4, MAX}) {
      refused(x, 0, 0x4, retFlags);
    }
    Check.due("addMethod of return type 1", x.addMethod(0, 0x4, 1, 0), 0);
    Check.due("addMethod of return type 14", x.addMethod(0, 0x5, 14, 0), 1);
    Check.due("addMethod varargs of return type 1", x.addMethod(0, 0x4, 17, 0), 2);
    Check.due("addMethod varargs of return type 14", x.addMethod(0, 0x5, 30, 0), 3);
  }

  private static void negativeReturn() {
    OverloadPicker x = new OverloadPicker(16, 32);
    for (int retFlags = -1; retFlags >= -64; retFlags--) {
      refused(x, 0, 0x4, retFlags);
    }
    for (int retFlags = 0; retFlags < 32; retFlags++) {
      refused(x, 0, 0x4, MIN + retFlags);
    }
  }

  private static void varargsOfNothing() {
    OverloadPicker x = new OverloadPicker(16, 32);
    for (int type = 1; type <= 14; type++) {
      refused(x, 0, 0, 16 + type);
    }
    Check.due("addMethod of nothing", x.addMethod(0, 0, 4, 0), 0);
    refused(x, 0, 0, 20);
    Check.due("addMethod varargs of one", x.addMethod(0, 0x1, 20, 0), 1);
  }

  private static void twins() {
    OverloadPicker x = new OverloadPicker(16, 32);
    Check.due("a method", x.addMethod(3, 0x54, 4, 0), 0);
    refused(x, 3, 0x54, 4);
    refused(x, 3, 0x54, 5);
    Check.due("the same as varargs", x.addMethod(3, 0x54, 20, 0), 1);
    refused(x, 3, 0x54, 21);
    Check.due("the same of another name", x.addMethod(4, 0x54, 4, 0), 2);
    Check.due("the types the other way round", x.addMethod(3, 0x45, 4, 0), 3);
    Check.due("a beginning of the list", x.addMethod(3, 0x4, 4, 0), 4);
    Check.due("a longer list", x.addMethod(3, 0x154, 4, 0), 5);
    Check.due("no parameter", x.addMethod(3, 0, 4, 0), 6);
    refused(x, 3, 0, 14);
    refused(x, 3, 0x54, 4);
    refused(x, 3, 0x154, 14);
    for (int place = 0; place < 4; place++) {
      Check.due("a list that differs in one place", x.addMethod(3, 0x4444 ^ 1 << 4 * place, 4, 0), 7 + place);
    }
    Check.due("a list of four", x.addMethod(3, 0x4444, 4, 0), 11);
    refused(x, 3, 0x4444, 4);
  }

  private static void refusedChangesNothing() {
    neverTaken(8, 0x4, 4);
    neverTaken(-1, 0x4, 4);
    neverTaken(0, 0x44444, 4);
    neverTaken(0, 0x40, 4);
    neverTaken(0, 0xF, 4);
    neverTaken(0, -1, 4);
    neverTaken(0, 0x6, 0);
    neverTaken(0, 0x6, 15);
    neverTaken(0, 0x6, 36);
    neverTaken(0, 0x6, -28);
    neverTaken(0, 0, 20);
    States.all().forEach((name, state) -> {
      if (!name.equals("fresh")) {
        notTaken(name, state, 0, 0x4, 5);
        notTaken(name, state, 1, 0xE1, 20);
      }
    });
    notTaken("full of methods", States::fullOfMethods, 5, 0x6, 4);
  }

  private static void neverTaken(int name, int params, int retFlags) {
    States.all().forEach((state, made) -> notTaken(state, made, name, params, retFlags));
  }

  private static void notTaken(String name, Supplier<OverloadPicker> state, int method, int params, int retFlags) {
    String call = "addMethod(" + method + ", " + params + ", " + retFlags + ", 99) when " + name;
    States.unchanged(call, state, x -> Check.refused(call, x.addMethod(method, params, retFlags, 99)));
  }

  private static void answersTheOldCount() {
    OverloadPicker x = new OverloadPicker(16, 32);
    for (int i = 0; i < 16; i++) {
      int before = x.methodCount();
      Check.due("addMethod", x.addMethod(i % 8, 0x4 + i / 8, 4, 0), before);
      refused(x, i % 8, 0x4 + i / 8, 4);
      Check.picked(x, i % 8, 0x4 + i / 8, i, 1);
    }
  }

  private static void growsByOne() {
    OverloadPicker x = new OverloadPicker(16, 32);
    for (int i = 0; i < 16; i++) {
      Check.due("methodCount() before", x.methodCount(), i);
      x.addMethod(0, i < 14 ? 1 + i : 3 + i, i % 2 == 0 ? 4 : 20, 0);
      Check.due("methodCount() after", x.methodCount(), i + 1);
    }
  }

  private static void endsOnlyTheResults() {
    OverloadPicker x = States.resolved();
    Check.node(x, 1, OverloadPicker.OK, -1, 4, 0, 1L);
    x.addMethod(5, 0x6, 4, 0);
    Check.program(x, 3, 0);
    for (int i = 0; i < 3; i++) {
      Check.unresolved(x, i);
    }
    Check.due("resolve()", x.resolve(), OverloadPicker.OK);
    Check.node(x, 0, OverloadPicker.OK, 1, 14, 3, 65533L);
    OverloadPicker open = States.open();
    open.addMethod(5, 0x6, 4, 0);
    Check.program(open, 2, 1);
    Check.unresolved(open, 0);
    Check.unresolved(open, 1);
    Check.due("addLiteral", open.addLiteral(3, -1), 2);
    Check.due("resolve()", open.resolve(), OverloadPicker.OK);
    Check.node(open, 0, OverloadPicker.OK, 1, 14, 3, 65533L);
    OverloadPicker empty = States.fresh();
    empty.addMethod(5, 0x6, 4, 0);
    Check.program(empty, 0, 1);
    Check.absent(empty, 0);
  }

  private static void keepsLastPhase() {
    int[] lists = {0x4, 0xA, 0x44};
    for (int phase = 1; phase <= 3; phase++) {
      OverloadPicker x = States.declared();
      Check.due("pick", x.pick(0, lists[phase - 1]), phase == 3 ? 1 : 0);
      Check.due("addMethod", x.addMethod(0, 0x44, 4, 0), 3);
      Check.due("lastPhase()", x.lastPhase(), phase);
    }
    OverloadPicker x = States.fresh();
    x.addMethod(0, 0x44, 4, 0);
    Check.due("lastPhase()", x.lastPhase(), 0);
  }

  private static void neverRemoved() {
    OverloadPicker x = States.fullOfMethods();
    x.clearProgram();
    x.addMethod(0, 0x4, 4, 0);
    x.addMethod(6, 0x6, 4, 0);
    x.resolve();
    x.clearProgram();
    Check.due("methodCount()", x.methodCount(), 4);
    Check.picked(x, 0, 0x4, 0, 1);
    Check.picked(x, 0, 0x44, 1, 3);
    Check.picked(x, 1, 0x1, 2, 3);
    Check.picked(x, 2, 0, 3, 1);
  }

  private static void countsToTheCapacity() {
    for (int capacity : new int[] {2, 16}) {
      OverloadPicker x = new OverloadPicker(capacity, 4);
      Check.due("methodCount() at first", x.methodCount(), 0);
      for (int i = 0; i < 20; i++) {
        x.addMethod(i % 8, 0x1 + i / 8, 4, 0);
        Check.due("methodCount()", x.methodCount(), Math.min(capacity, i + 1));
      }
    }
  }
}
