public final class Promise09Resolving {
  private static final int OK = OverloadPicker.OK;
  private static final int NO_MATCH = OverloadPicker.NO_MATCH;
  private static final int AMBIGUOUS = OverloadPicker.AMBIGUOUS;
  private static final int ARG_ERROR = OverloadPicker.ARG_ERROR;
  private static final int REFUSED = OverloadPicker.REFUSED;
  private static final int MIN = Integer.MIN_VALUE;
  private static final int MAX = Integer.MAX_VALUE;

  public static void main(String[] args) {
    refusesIncompletePrograms();
    typesBottomUp();
    ordersArguments();
    fourNestedArguments();
    failuresSpread();
    callsWithoutArguments();
    narrowsToTheReturnType();
    sumsInLong();
    sumsTheLongestChain();
    usesTheMethodsOfNow();
    Check.end();
  }

  private static void refusesIncompletePrograms() {
    OverloadPicker x = new OverloadPicker(2, 4);
    Check.due("resolve() on an empty program", x.resolve(), REFUSED);
    x.addCall(0, 2);
    Check.due("resolve() on an open program", x.resolve(), REFUSED);
    x.addLiteral(4, 1);
    Check.due("resolve() on an open program", x.resolve(), REFUSED);
    Check.unresolved(x, 0);
    Check.unresolved(x, 1);
    Check.program(x, 2, 1);
    Check.due("addLiteral", x.addLiteral(4, 1), 2);
    Check.due("resolve() on a complete program", x.resolve(), NO_MATCH);
  }

  private static void typesBottomUp() {
    OverloadPicker x = new OverloadPicker(16, 32);
    x.addMethod(0, 0x4, 1, 10);
    x.addMethod(0, 0x1, 14, 20);
    x.addMethod(0, 0xE, 6, 30);
    x.addMethod(0, 0x6, 20, 40);
    x.pick(0, 0x6);
    // f(f(f(f(5)))): int -> byte -> Object -> boolean, which is boxed for the last call.
    for (int i = 0; i < 4; i++) {
      x.addCall(0, 1);
    }
    x.addLiteral(4, 5);
    Check.due("resolve()", x.resolve(), OK);
    for (int time = 0; time < 2; time++) {
      Check.node(x, 4, OK, -1, 4, 0, 5L);
      Check.node(x, 3, OK, 0, 1, 1, 15L);
      Check.node(x, 2, OK, 1, 14, 1, 35L);
      Check.node(x, 1, OK, 2, 6, 1, 1L);
      Check.node(x, 0, OK, 2, 6, 2, 1L);
      Check.due("resolve() again", x.resolve(), OK);
    }
    Check.due("lastPhase()", x.lastPhase(), 2);
    Check.due("methodCount()", x.methodCount(), 4);
    Check.program(x, 5, 0);
    x.clearProgram();
    x.addCall(0, 2);
    x.addLiteral(6, 1);
    x.addLiteral(12, 1);
    Check.due("resolve()", x.resolve(), OK);
    Check.node(x, 0, OK, 3, 4, 3, 42L);
    Check.due("lastPhase()", x.lastPhase(), 2);
  }

  private static void ordersArguments() {
    OverloadPicker x = new OverloadPicker(16, 32);
    x.addMethod(0, 0x4621, 5, 100);
    x.addMethod(1, 0x36, 1, 3);
    x.addMethod(2, 0x5, 2, 4);
    // f(g(true, 'c'), h(7L), false, 9)
    x.addCall(0, 4);
    x.addCall(1, 2);
    x.addLiteral(6, 1);
    x.addLiteral(3, 99);
    x.addCall(2, 1);
    x.addLiteral(5, 7);
    x.addLiteral(6, 0);
    x.addLiteral(4, 9);
    Check.due("resolve()", x.resolve(), OK);
    Check.node(x, 1, OK, 1, 1, 1, 103L);
    Check.node(x, 4, OK, 2, 2, 1, 11L);
    Check.node(x, 0, OK, 0, 5, 1, 223L);
    x.clearProgram();
    x.addCall(0, 4);
    x.addLiteral(4, 9);
    x.addLiteral(6, 0);
    x.addLiteral(2, 1);
    x.addLiteral(1, 1);
    Check.due("resolve() in the wrong order", x.resolve(), NO_MATCH);
  }

  private static void fourNestedArguments() {
    OverloadPicker x = new OverloadPicker(16, 32);
    x.addMethod(0, 0x4444, 4, 1);
    // 21 nodes: f(f(a, b, c, d), ... four times)
    x.addCall(0, 4);
    for (int call = 0; call < 4; call++) {
      x.addCall(0, 4);
      for (int i = 0; i < 4; i++) {
        x.addLiteral(4, 10 * call + i);
      }
    }
    Check.due("resolve()", x.resolve(), OK);
    Check.node(x, 0, OK, 0, 4, 1, 269L);
    Check.node(x, 16, OK, 0, 4, 1, 127L);
  }

  private static void failuresSpread() {
    OverloadPicker x = new OverloadPicker(16, 32);
    x.addMethod(0, 0x54, 4, 0);
    x.addMethod(0, 0x45, 4, 0);
    x.addMethod(1, 0xEE, 4, 50);
    x.addMethod(2, 0xE, 20, 60);
    // g(g(1, f(2, 3)), k(h())) with f ambiguous and h unknown.
    x.addCall(1, 2);
    x.addCall(1, 2);
    x.addLiteral(4, 1);
    x.addCall(0, 2);
    x.addLiteral(4, 2);
    x.addLiteral(4, 3);
    x.addCall(2, 1);
    x.addCall(3, 0);
    Check.due("resolve()", x.resolve(), ARG_ERROR);
    Check.node(x, 0, ARG_ERROR, -1, 0, 0, 0L);
    Check.node(x, 1, ARG_ERROR, -1, 0, 0, 0L);
    Check.node(x, 2, OK, -1, 4, 0, 1L);
    Check.node(x, 3, AMBIGUOUS, -1, 0, 1, 0L);
    Check.node(x, 4, OK, -1, 4, 0, 2L);
    Check.node(x, 6, ARG_ERROR, -1, 0, 0, 0L);
    Check.node(x, 7, NO_MATCH, -1, 0, 0, 0L);
    for (int place = 0; place < 4; place++) {
      oneFailingArgument(x, place);
    }
    ambiguousLater(0, 0x44, 2, 0x5E, 4, 0xE5, 4);
    ambiguousLater(0, 0x44, 3, 0x4, 20, 0x44, 20);
  }

  private static void oneFailingArgument(OverloadPicker x, int place) {
    x.clearProgram();
    x.addCall(2, 4);
    for (int i = 0; i < 4; i++) {
      if (i == place) {
        x.addCall(3, 0);
      } else {
        x.addLiteral(4, 1);
      }
    }
    Check.due("resolve()", x.resolve(), ARG_ERROR);
    Check.node(x, 0, ARG_ERROR, -1, 0, 0, 0L);
  }

  private static void ambiguousLater(int name, int types, int phase, int params, int flags, int params2, int flags2) {
    OverloadPicker x = new OverloadPicker(16, 32);
    x.addMethod(name, params, flags, 0);
    x.addMethod(name, params2, flags2, 0);
    x.addCall(name, 2);
    x.addLiteral(types & 15, 0);
    x.addLiteral(types >> 4, 0);
    Check.due("resolve()", x.resolve(), AMBIGUOUS);
    Check.node(x, 0, AMBIGUOUS, -1, 0, phase, 0L);
    Check.due("lastPhase()", x.lastPhase(), 0);
  }

  private static void callsWithoutArguments() {
    OverloadPicker x = new OverloadPicker(16, 32);
    x.addMethod(0, 0, 10, -7);
    x.addMethod(1, 0x4, 20, 8);
    x.addCall(0, 0);
    Check.due("resolve()", x.resolve(), OK);
    Check.node(x, 0, OK, 0, 10, 1, -7L);
    x.clearProgram();
    x.addCall(1, 0);
    Check.due("resolve()", x.resolve(), OK);
    Check.node(x, 0, OK, 1, 4, 3, 8L);
    x.clearProgram();
    x.addCall(2, 0);
    Check.due("resolve()", x.resolve(), NO_MATCH);
    Check.node(x, 0, NO_MATCH, -1, 0, 0, 0L);
  }

  private static void narrowsToTheReturnType() {
    int[] constants = {300, 70000, -70000, -1, MIN, MAX};
    for (int constant : constants) {
      for (int type = 1; type <= 14; type++) {
        long sum = (long) constant + 2;
        OverloadPicker x = new OverloadPicker(2, 4);
        x.addMethod(0, 0x4, type, constant);
        x.addCall(0, 1);
        x.addLiteral(4, 2);
        Check.due("resolve()", x.resolve(), OK);
        Check.node(x, 0, OK, 0, type, 1, narrowed(type, sum));
      }
    }
  }

  private static long narrowed(int type, long v) {
    int kind = type > 6 && type < 13 ? type - 6 : type;
    return kind == 1 ? (byte) v : kind == 2 ? (short) v : kind == 3 ? (char) v : kind == 4 ? (int) v : kind == 6 ? v & 1 : v;
  }

  private static void sumsInLong() {
    OverloadPicker x = new OverloadPicker(2, 8);
    x.addMethod(0, 0x4444, 5, MAX);
    x.addMethod(1, 0x44, 14, MIN);
    x.addCall(0, 4);
    for (int i = 0; i < 4; i++) {
      x.addLiteral(4, MAX);
    }
    Check.due("resolve()", x.resolve(), OK);
    Check.node(x, 0, OK, 0, 5, 1, 5L * MAX);
    x.clearProgram();
    x.addCall(1, 2);
    x.addLiteral(4, MIN);
    x.addLiteral(4, MIN);
    Check.due("resolve()", x.resolve(), OK);
    Check.node(x, 0, OK, 1, 14, 1, 3L * MIN);
  }

  // 32 nodes hold too few ints to leave the range of long, so the greatest sum is exact.
  private static void sumsTheLongestChain() {
    OverloadPicker x = new OverloadPicker(2, 32);
    x.addMethod(0, 0x5, 21, MAX);
    for (int i = 0; i < 31; i++) {
      x.addCall(0, 1);
    }
    x.addLiteral(5, MAX);
    Check.due("resolve()", x.resolve(), OK);
    for (int i = 0; i < 31; i++) {
      Check.node(x, i, OK, 0, 5, 3, (32L - i) * MAX);
    }
  }

  private static void usesTheMethodsOfNow() {
    OverloadPicker x = new OverloadPicker(16, 32);
    x.addCall(0, 1);
    x.addLiteral(1, 5);
    Check.due("resolve() without methods", x.resolve(), NO_MATCH);
    x.addMethod(0, 0x1, 20, 1);
    Check.due("resolve()", x.resolve(), OK);
    Check.node(x, 0, OK, 0, 4, 3, 6L);
    x.addMethod(0, 0xE, 4, 2);
    Check.due("resolve()", x.resolve(), OK);
    Check.node(x, 0, OK, 1, 4, 2, 7L);
    x.addMethod(0, 0x5, 4, 3);
    Check.due("resolve()", x.resolve(), OK);
    Check.node(x, 0, OK, 2, 4, 1, 8L);
    x.addMethod(0, 0x4, 5, 4);
    Check.due("resolve()", x.resolve(), OK);
    Check.node(x, 0, OK, 3, 5, 1, 9L);
  }
}
