import java.util.function.Consumer;

public final class Promise09Resolving {
  private static final int OK = OverloadPicker.OK;
  private static final int NO_MATCH = OverloadPicker.NO_MATCH;
  private static final int AMBIGUOUS = OverloadPicker.AMBIGUOUS;
  private static final int ARG_ERROR = OverloadPicker.ARG_ERROR;
  private static final int MIN = Integer.MIN_VALUE;
  private static final int MAX = Integer.MAX_VALUE;

  public static void main(String[] args) {
    Check.sentence("resolve() answers REFUSED and changes nothing unless the program is complete.",
        Promise09Resolving::refusesIncompletePrograms);
    Check.sentence("Otherwise every node gets a result", Promise09Resolving::everyNode);
    Check.sentence("computed bottom-up so that each call node's arguments are handled before the call node itself",
        Promise09Resolving::bottomUp);
    Check.sentence("A literal gets status OK, method -1, its own type, phase 0 and its own value.",
        Promise09Resolving::literals);
    Check.sentence("A call with at least one argument node whose status is not OK gets status ARG_ERROR, method -1, type 0,"
        + " phase 0 and value 0.", Promise09Resolving::failingArguments);
    Check.sentence("Any other call is resolved exactly as pick would resolve it", Promise09Resolving::asPickWould);
    Check.sentence("over the methods currently stored", Promise09Resolving::methodsOfNow);
    Check.sentence("A call with argc 0 uses the empty list.", Promise09Resolving::withoutArguments);
    Check.sentence("value = NARROW(R, constant + sum of the argument values)", Promise09Resolving::narrowedSum);
    Check.sentence("The sum is computed in long arithmetic, wrapping as Java long arithmetic does, with the int constant"
        + " taken as a long.", Promise09Resolving::sumsInLong);
    Check.sentence("If the outcome is NO_MATCH or AMBIGUOUS, the call gets that status, method -1, type 0, phase as pick would"
        + " set it (0 for NO_MATCH, the deciding phase for AMBIGUOUS), and value 0.", Promise09Resolving::failingCalls);
    Check.sentence("It answers node 0's status, which is one of OK, NO_MATCH, AMBIGUOUS or ARG_ERROR.",
        Promise09Resolving::answersTheFirstStatus);
    Check.sentence("The program then counts as resolved until the next successful addMethod, addLiteral or addCall, or the"
        + " next clearProgram().", Promise09Resolving::staysResolved);
    Check.sentence("What resolve() does not change", Promise09Resolving::whatItKeeps);
    Check.sentence("Resolving again with nothing changed in between gives the same results.", Promise09Resolving::again);
    Check.sentence("After a resolve() that is not REFUSED, every call node with status OK has nodeMethod equal to what pick"
        + " answers for its name and the nodeType values of its argument nodes.", Promise09Resolving::agreesWithPick);
    Check.end();
  }

  private static void refusesIncompletePrograms() {
    for (String name : new String[] {"fresh", "declared", "open", "full of nodes and open"}) {
      String call = "resolve() when " + name;
      States.unchanged(call, States.all().get(name), x -> Check.refused(call, x.resolve()));
    }
    OverloadPicker x = States.resolved();
    x.clearProgram();
    Check.refused("resolve() on a cleared program", x.resolve());
    for (int argc = 1; argc <= 4; argc++) {
      x.clearProgram();
      x.addCall(0, argc);
      for (int given = 0; given < argc; given++) {
        Check.refused("resolve() with an argument missing", x.resolve());
        Check.unresolved(x, given);
        x.addLiteral(4, 1);
      }
      Check.due("resolve() with every argument", x.resolve(), OK);
    }
  }

  private static void everyNode() {
    OverloadPicker x = new OverloadPicker(2, 32);
    x.addMethod(0, 0xE, 20, 1);
    // The fullest program: calls and literals in turn, and a literal at the end.
    for (int i = 0; i < 30; i += 2) {
      x.addCall(0, 2);
      x.addLiteral(4, i);
    }
    x.addCall(0, 1);
    x.addLiteral(4, 100);
    Check.due("resolve()", x.resolve(), OK);
    long value = 101L;
    Check.node(x, 31, OK, -1, 4, 0, 100L);
    Check.node(x, 30, OK, 0, 4, 3, value);
    for (int i = 28; i >= 0; i -= 2) {
      value += 1 + i;
      Check.node(x, i + 1, OK, -1, 4, 0, i);
      Check.node(x, i, OK, 0, 4, 3, value);
    }
  }

  private static void bottomUp() {
    OverloadPicker x = new OverloadPicker(16, 32);
    x.addMethod(0, 0x4, 1, 10);
    x.addMethod(0, 0x1, 14, 20);
    x.addMethod(0, 0xE, 6, 30);
    // f(f(f(f(5)))): int -> byte -> Object -> boolean, which is boxed for the last call.
    for (int i = 0; i < 4; i++) {
      x.addCall(0, 1);
    }
    x.addLiteral(4, 5);
    Check.due("resolve()", x.resolve(), OK);
    Check.node(x, 3, OK, 0, 1, 1, 15L);
    Check.node(x, 2, OK, 1, 14, 1, 35L);
    Check.node(x, 1, OK, 2, 6, 1, 1L);
    Check.node(x, 0, OK, 2, 6, 2, 1L);
    fourTimesFour();
  }

  /** 21 nodes: f(f(a, b, c, d), ... four times). */
  private static void fourTimesFour() {
    OverloadPicker x = new OverloadPicker(16, 32);
    x.addMethod(0, 0x4444, 4, 1);
    x.addCall(0, 4);
    for (int call = 0; call < 4; call++) {
      x.addCall(0, 4);
      for (int i = 0; i < 4; i++) {
        x.addLiteral(4, 10 * call + i);
      }
    }
    Check.due("resolve()", x.resolve(), OK);
    Check.node(x, 0, OK, 0, 4, 1, 269L);
    Check.node(x, 1, OK, 0, 4, 1, 7L);
    Check.node(x, 16, OK, 0, 4, 1, 127L);
  }

  private static void literals() {
    OverloadPicker x = new OverloadPicker(2, 4);
    for (int type = 1; type <= 14; type++) {
      x.clearProgram();
      x.addLiteral(type, 1);
      Check.due("resolve()", x.resolve(), OK);
      Check.node(x, 0, OK, -1, type, 0, 1L);
    }
    x.clearProgram();
    x.addCall(0, 2);
    x.addLiteral(9, -2);
    x.addLiteral(5, MIN);
    Check.due("resolve()", x.resolve(), NO_MATCH);
    Check.node(x, 1, OK, -1, 9, 0, 65534L);
    Check.node(x, 2, OK, -1, 5, 0, MIN);
  }

  /** Name 0 without arguments is ambiguous, name 1 unknown; name 3 takes anything but their failures. */
  private static OverloadPicker withFailures() {
    OverloadPicker x = new OverloadPicker(16, 32);
    x.addMethod(0, 0x4, 20, 1);
    x.addMethod(0, 0x6, 20, 1);
    x.addMethod(3, 0xE, 20, 60);
    return x;
  }

  private static int addFailure(OverloadPicker x, int status) {
    if (status == ARG_ERROR) {
      x.addCall(3, 1);
    }
    return x.addCall(status == AMBIGUOUS ? 0 : 1, 0);
  }

  private static void failingArguments() {
    OverloadPicker x = withFailures();
    for (int status : new int[] {NO_MATCH, AMBIGUOUS, ARG_ERROR}) {
      for (int argc = 1; argc <= 4; argc++) {
        // Every choice of places for the failure but none at all.
        for (int places = 1; places < 1 << argc; places++) {
          failing(x, status, argc, places);
        }
      }
    }
    x.clearProgram();
    x.addCall(3, 1);
    x.addLiteral(4, 1);
    Check.due("resolve() without a failing argument", x.resolve(), OK);
  }

  private static void failing(OverloadPicker x, int status, int argc, int places) {
    x.clearProgram();
    x.addCall(3, argc);
    int[] index = new int[argc];
    for (int i = 0; i < argc; i++) {
      index[i] = x.nodeCount();
      if ((places >> i & 1) == 1) {
        addFailure(x, status);
      } else {
        x.addLiteral(4, 1);
      }
    }
    Check.due("resolve()", x.resolve(), ARG_ERROR);
    Check.node(x, 0, ARG_ERROR, -1, 0, 0, 0L);
    for (int i = 0; i < argc; i++) {
      Check.due("nodeStatus of an argument", x.nodeStatus(index[i]), (places >> i & 1) == 1 ? status : OK);
    }
  }

  private static void asPickWould() {
    OverloadPicker x = new OverloadPicker(16, 32);
    int[] methods = {0x4, 4, 0x5, 20, 0x54, 4, 0x45, 4, 0xE, 20, 0xAA, 4, 0x444, 20};
    for (int i = 0; i < methods.length; i += 2) {
      x.addMethod(2, methods[i], methods[i + 1], 0);
    }
    for (int first = 1; first <= 14; first++) {
      for (int second = 0; second <= 14; second++) {
        x.clearProgram();
        x.addCall(2, second == 0 ? 1 : 2);
        x.addLiteral(first, 0);
        x.addLiteral(second, 0);
        int picked = x.pick(2, first | second << 4);
        int status = picked < 0 ? picked : OK;
        Check.due("resolve() of " + first + ", " + second, x.resolve(), status);
        Check.node(x, 0, status, picked < 0 ? -1 : picked, picked < 0 ? 0 : 4, x.lastPhase(), 0L);
      }
    }
  }

  private static void methodsOfNow() {
    OverloadPicker x = new OverloadPicker(16, 32);
    x.addCall(0, 1);
    x.addLiteral(1, 5);
    Check.due("resolve() without methods", x.resolve(), NO_MATCH);
    x.addMethod(0, 0x1, 20, 1);
    Check.due("resolve()", x.resolve(), OK);
    Check.node(x, 0, OK, 0, 4, 3, 6L);
    x.addMethod(0, 0xE, 4, 2);
    Check.due("resolve()", x.resolve(), OK);
    Check.node(x, 0, OK, 1, 4, 2, 7L);
    x.addMethod(0, 0x5, 4, 3);
    Check.due("resolve()", x.resolve(), OK);
    Check.node(x, 0, OK, 2, 4, 1, 8L);
    x.addMethod(0, 0x4, 5, 4);
    Check.due("resolve()", x.resolve(), OK);
    Check.node(x, 0, OK, 3, 5, 1, 9L);
  }

  private static void withoutArguments() {
    OverloadPicker x = new OverloadPicker(16, 32);
    x.addMethod(0, 0, 10, -7);
    x.addMethod(0, 0x4, 4, 5);
    x.addMethod(1, 0x4, 20, 8);
    x.addMethod(2, 0x4, 4, 9);
    int[] status = {OK, OK, NO_MATCH, NO_MATCH};
    int[] method = {0, 2, -1, -1};
    int[] type = {10, 4, 0, 0};
    int[] phase = {1, 3, 0, 0};
    long[] value = {-7, 8, 0, 0};
    for (int name = 0; name < 4; name++) {
      x.clearProgram();
      x.addCall(name, 0);
      Check.due("resolve()", x.resolve(), status[name]);
      Check.node(x, 0, status[name], method[name], type[name], phase[name], value[name]);
    }
  }

  private static void narrowedSum() {
    for (int constant : new int[] {0, 300, 70000, -70000, -1, MIN, MAX}) {
      for (int type = 1; type <= 14; type++) {
        for (int argc = 0; argc <= 4; argc++) {
          OverloadPicker x = new OverloadPicker(2, 8);
          x.addMethod(0, 0x4, 16 + type, constant);
          x.addCall(0, argc);
          for (int i = 0; i < argc; i++) {
            x.addLiteral(4, 1 << i);
          }
          Check.due("resolve()", x.resolve(), OK);
          Check.node(x, 0, OK, 0, type, 3, narrowed(type, (long) constant + (1 << argc) - 1));
        }
      }
    }
  }

  private static long narrowed(int type, long v) {
    int kind = type > 6 && type < 13 ? type - 6 : type;
    return kind == 1 ? (byte) v : kind == 2 ? (short) v : kind == 3 ? (char) v : kind == 4 ? (int) v : kind == 6 ? v & 1 : v;
  }

  /** 32 nodes hold too few ints to leave the range of long, so every sum that can be reached is exact. */
  private static void sumsInLong() {
    for (int constant : new int[] {MIN, MAX}) {
      for (int value : new int[] {MIN, MAX}) {
        OverloadPicker x = new OverloadPicker(2, 8);
        x.addMethod(0, 0x4444, 5, constant);
        x.addCall(0, 4);
        for (int i = 0; i < 4; i++) {
          x.addLiteral(4, value);
        }
        Check.due("resolve()", x.resolve(), OK);
        Check.node(x, 0, OK, 0, 5, 1, constant + 4L * value);
      }
    }
    // Values beyond int go on into the next sum, and only the return type cuts them off.
    OverloadPicker x = new OverloadPicker(2, 8);
    x.addMethod(0, 0x44, 5, MAX);
    x.addMethod(1, 0x55, 4, MAX);
    x.addCall(1, 2);
    x.addCall(0, 2);
    x.addLiteral(4, MAX);
    x.addLiteral(4, MAX);
    x.addLiteral(5, 5);
    Check.due("resolve()", x.resolve(), OK);
    Check.node(x, 1, OK, 0, 5, 1, 3L * MAX);
    Check.node(x, 0, OK, 1, 4, 1, 1L);
  }

  private static void failingCalls() {
    failingCall(NO_MATCH, 0, 0x4, 0x6, 4, 0x44, 4);
    failingCall(NO_MATCH, 0, 0x5, 0x444, 20, 0x4, 4, 0xA, 4);
    failingCall(AMBIGUOUS, 1, 0x44, 0x54, 4, 0x45, 4);
    failingCall(AMBIGUOUS, 2, 0x44, 0x5E, 4, 0xE5, 4);
    failingCall(AMBIGUOUS, 3, 0x44, 0x4, 20, 0x44, 20);
    failingCall(AMBIGUOUS, 3, 0, 0x4, 20, 0x6, 20);
  }

  private static void failingCall(int status, int phase, int types, int... paramsAndFlags) {
    OverloadPicker x = new OverloadPicker(16, 32);
    for (int i = 0; i < paramsAndFlags.length; i += 2) {
      x.addMethod(0, paramsAndFlags[i], paramsAndFlags[i + 1], 5);
    }
    x.addCall(0, types == 0 ? 0 : types < 16 ? 1 : 2);
    x.addLiteral(types & 15, 7);
    x.addLiteral(types >> 4, 7);
    Check.due("resolve()", x.resolve(), status);
    Check.node(x, 0, status, -1, 0, phase, 0L);
  }

  private static void answersTheFirstStatus() {
    OverloadPicker x = withFailures();
    for (int status : new int[] {NO_MATCH, AMBIGUOUS, ARG_ERROR}) {
      x.clearProgram();
      addFailure(x, status);
      Check.due("resolve()", x.resolve(), status);
      Check.due("nodeStatus(0)", x.nodeStatus(0), status);
    }
    x.clearProgram();
    x.addLiteral(4, 1);
    Check.due("resolve() of a literal", x.resolve(), OK);
    // Node 0 fails though the last node does not, and its own failure is the answer.
    x.clearProgram();
    x.addCall(1, 1);
    x.addLiteral(4, 1);
    Check.due("resolve() of an unknown call", x.resolve(), NO_MATCH);
  }

  private static void staysResolved() {
    keepsResults("a refused addMethod", x -> Check.refused("addMethod", x.addMethod(0, 0x4, 4, 1)));
    keepsResults("a refused addLiteral", x -> Check.refused("addLiteral", x.addLiteral(4, 1)));
    keepsResults("a refused addCall", x -> Check.refused("addCall", x.addCall(0, 1)));
    keepsResults("pick", x -> x.pick(0, 0x4));
    keepsResults("convertible", x -> x.convertible(4, 5, 1));
    keepsResults("resolve()", OverloadPicker::resolve);
    OverloadPicker x = States.resolved();
    Check.due("addMethod", x.addMethod(5, 0, 4, 0), 3);
    Check.unresolved(x, 0);
    Check.due("resolve()", x.resolve(), OK);
    Check.node(x, 0, OK, 1, 14, 3, 65533L);
    // A complete program takes no node, so the ends by addLiteral and addCall come after clearProgram().
    x.clearProgram();
    Check.absent(x, 0);
    x.addCall(0, 1);
    Check.unresolved(x, 0);
    x.addLiteral(4, 1);
    Check.unresolved(x, 0);
    Check.unresolved(x, 1);
  }

  private static void keepsResults(String call, Consumer<OverloadPicker> use) {
    OverloadPicker x = States.resolved();
    use.accept(x);
    Check.due("nodeStatus(0) after " + call, x.nodeStatus(0), OK);
    Check.node(x, 0, OK, 1, 14, 3, 65533L);
    Check.node(x, 2, OK, -1, 3, 0, 65535L);
  }

  private static void whatItKeeps() {
    States.all().forEach((name, state) -> {
      OverloadPicker used = state.get();
      int phase = used.lastPhase();
      used.resolve();
      Check.due("lastPhase() after resolve() when " + name, used.lastPhase(), phase);
      Check.program(used, state.get().nodeCount(), state.get().pending());
      Check.due("methodCount()", used.methodCount(), state.get().methodCount());
      // A further method ends the results on both sides, and what is left must be the same.
      OverloadPicker kept = state.get();
      used.addMethod(5, 0x6, 4, 1);
      kept.addMethod(5, 0x6, 4, 1);
      if (!name.equals("full of methods")) {
        States.same("resolve() when " + name, used, kept);
      }
    });
    for (int type : new int[] {4, 10, 6}) {
      OverloadPicker x = new OverloadPicker(2, 4);
      x.addMethod(0, 0x4, 4, 0);
      x.addCall(0, 1);
      x.addLiteral(type, 1);
      x.resolve();
      Check.due("lastPhase() after the first resolve()", x.lastPhase(), 0);
    }
  }

  private static void again() {
    for (String name : new String[] {"complete", "resolved", "resolved with errors", "full of nodes and complete"}) {
      OverloadPicker once = States.all().get(name).get();
      OverloadPicker often = States.all().get(name).get();
      int answer = once.resolve();
      for (int time = 0; time < 3; time++) {
        Check.due("resolve() when " + name, often.resolve(), answer);
      }
      States.same("resolve() again when " + name, often, once);
    }
  }

  private static void agreesWithPick() {
    OverloadPicker x = new OverloadPicker(16, 32);
    x.addMethod(0, 0x4, 7, 1);
    x.addMethod(0, 0xD, 12, 2);
    x.addMethod(0, 0xE, 20, 3);
    x.addMethod(1, 0x44, 11, 4);
    x.addMethod(1, 0xEE, 2, 5);
    x.addMethod(1, 0x5, 19, 6);
    // g(f(f(1)), g(f('a', true), f())) with the index of each call's arguments.
    int[] argc = {2, 1, 1, -4, 2, 2, -3, -6, 0};
    int[] name = {1, 0, 0, 0, 1, 0, 0, 0, 0};
    int[][] arguments = {{1, 4}, {2}, {3}, null, {5, 8}, {6, 7}, null, null, {}};
    for (int i = 0; i < argc.length; i++) {
      Check.due("add", argc[i] < 0 ? x.addLiteral(-argc[i], 97) : x.addCall(name[i], argc[i]), i);
    }
    Check.due("resolve()", x.resolve(), OK);
    for (int i = 0; i < argc.length; i++) {
      if (arguments[i] != null) {
        int list = 0;
        for (int k = 0; k < arguments[i].length; k++) {
          list |= x.nodeType(arguments[i][k]) << 4 * k;
        }
        Check.due("nodeStatus(" + i + ")", x.nodeStatus(i), OK);
        Check.due("nodeMethod(" + i + ")", x.nodeMethod(i), x.pick(name[i], list));
        Check.due("nodePhase(" + i + ")", x.nodePhase(i), x.lastPhase());
      }
    }
  }
}
