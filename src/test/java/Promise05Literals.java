public final class Promise05Literals {
  private static final int MIN = Integer.MIN_VALUE;
  private static final int MAX = Integer.MAX_VALUE;

  public static void main(String[] args) {
    Check.sentence("Node i is the i-th added node, with i counted from 0.", Promise05Literals::countedFromZero);
    Check.sentence("A call node with argc c has as its arguments the c complete subtrees that follow it, in order.",
        Promise05Literals::subtreesInOrder);
    Check.sentence("pending starts at 1, and each added node sets pending = pending - 1 + argc, where a literal has argc 0.",
        Promise05Literals::pendingFromOne);
    Check.sentence("The program is complete iff nodeCount() > 0 and pending() == 0.", Promise05Literals::complete);
    Check.sentence("Its value is NARROW(type, value), where the int value is taken as a long first.",
        Promise05Literals::narrows);
    Check.sentence("a T_CHAR literal of -1 has value 65535", () -> literal(OverloadPicker.T_CHAR, -1, 65535L));
    Check.sentence("a T_BOOLEAN literal of -1 has value 1", () -> literal(OverloadPicker.T_BOOLEAN, -1, 1L));
    Check.sentence("1. type is not in 1..14", Promise05Literals::wrongType);
    Check.sentence("2. nodeCount() equals the clamped maxNodes", Promise05Literals::full);
    Check.sentence("3. the program is complete", Promise05Literals::refusedWhenComplete);
    Check.sentence("When refused, it answers REFUSED and changes nothing.", Promise05Literals::refusedChangesNothing);
    Check.sentence("Otherwise it answers the index of the new node, which equals the old nodeCount().",
        Promise05Literals::answersTheOldCount);
    Check.sentence("nodeCount() grows by one, pending() decreases by one", Promise05Literals::counts);
    Check.sentence("the program becomes UNRESOLVED", Promise05Literals::unresolved);
    Check.sentence("Methods and lastPhase() do not change.", Promise05Literals::keepsMethodsAndPhase);
    Check.end();
  }

  private static void countedFromZero() {
    OverloadPicker x = new OverloadPicker(2, 32);
    x.addMethod(0, 0xE, 30, 0);
    for (int i = 0; i < 31; i++) {
      Check.due("add", i % 2 == 0 ? x.addCall(0, 2) : x.addLiteral(1 + i % 14, i), i);
    }
    Check.due("add", x.addLiteral(14, 31), 31);
    Check.absent(x, 32);
    Check.unresolved(x, 31);
  }

  private static void subtreesInOrder() {
    OverloadPicker x = new OverloadPicker(16, 32);
    x.addMethod(0, 0x4621, 5, 100);
    x.addMethod(1, 0x36, 1, 3);
    x.addMethod(2, 0x5, 2, 4);
    // f(g(true, 'c'), h(7L), false, 9)
    x.addCall(0, 4);
    x.addCall(1, 2);
    x.addLiteral(6, 1);
    x.addLiteral(3, 99);
    x.addCall(2, 1);
    x.addLiteral(5, 7);
    x.addLiteral(6, 0);
    x.addLiteral(4, 9);
    Check.due("resolve()", x.resolve(), OverloadPicker.OK);
    Check.node(x, 1, OverloadPicker.OK, 1, 1, 1, 103L);
    Check.node(x, 4, OverloadPicker.OK, 2, 2, 1, 11L);
    Check.node(x, 0, OverloadPicker.OK, 0, 5, 1, 223L);
    x.clearProgram();
    x.addCall(0, 4);
    x.addLiteral(4, 9);
    x.addLiteral(6, 0);
    x.addLiteral(2, 1);
    x.addLiteral(1, 1);
    Check.due("resolve() in the wrong order", x.resolve(), OverloadPicker.NO_MATCH);
  }

  private static void pendingFromOne() {
    OverloadPicker x = new OverloadPicker(2, 32);
    Check.program(x, 0, 1);
    for (int argc = 0; argc <= 4; argc++) {
      x.clearProgram();
      x.addCall(0, argc);
      Check.program(x, 1, argc);
    }
    for (int argc = 0; argc <= 4; argc++) {
      x.clearProgram();
      x.addCall(0, 3);
      x.addCall(0, argc);
      Check.program(x, 2, 2 + argc);
      x.addLiteral(4, 1);
      Check.program(x, 3, 1 + argc);
    }
    x.clearProgram();
    x.addLiteral(4, 1);
    Check.program(x, 1, 0);
  }

  /** Only a complete program can be resolved, and only an incomplete one takes a node. */
  private static void complete() {
    OverloadPicker x = new OverloadPicker(2, 32);
    Check.refused("resolve() on an empty program", x.resolve());
    x.addCall(0, 2);
    Check.refused("resolve() with two missing", x.resolve());
    x.addLiteral(4, 1);
    Check.refused("resolve() with one missing", x.resolve());
    Check.due("addLiteral with one missing", x.addLiteral(4, 1), 2);
    Check.due("resolve() with none missing", x.resolve(), OverloadPicker.NO_MATCH);
    Check.refused("addLiteral with none missing", x.addLiteral(4, 1));
    x.clearProgram();
    Check.refused("resolve() on a cleared program", x.resolve());
    x.addLiteral(4, 1);
    Check.due("resolve() of one literal", x.resolve(), OverloadPicker.OK);
  }

  private static void literal(int type, int value, long due) {
    OverloadPicker x = new OverloadPicker(2, 4);
    Check.due("addLiteral(" + type + ", " + value + ")", x.addLiteral(type, value), 0);
    Check.due("resolve()", x.resolve(), OverloadPicker.OK);
    Check.node(x, 0, OverloadPicker.OK, -1, type, 0, due);
  }

  private static void narrows() {
    int[] values = {MIN, -65537, -32769, -129, -1, 0, 1, 2, 127, 128, 255, 256, 32767, 32768, 65535, 65536, MAX};
    for (int value : values) {
      for (int boxed = 0; boxed <= 6; boxed += 6) {
        literal(1 + boxed, value, (byte) value);
        literal(2 + boxed, value, (short) value);
        literal(3 + boxed, value, (char) value);
        literal(4 + boxed, value, value);
        literal(5 + boxed, value, value);
        literal(6 + boxed, value, value % 2 == 0 ? 0L : 1L);
      }
      literal(13, value, value);
      literal(14, value, value);
    }
  }

  private static void wrongType() {
    OverloadPicker x = new OverloadPicker(2, 4);
    for (int type : new int[] {MIN, -14, -1, 0, 15, 16, 20, MAX}) {
      Check.refused("addLiteral(" + type + ", 1)", x.addLiteral(type, 1));
      Check.program(x, 0, 1);
    }
    Check.due("addLiteral(1, 1)", x.addLiteral(1, 1), 0);
    x.clearProgram();
    Check.due("addLiteral(14, 1)", x.addLiteral(14, 1), 0);
  }

  private static void full() {
    for (int capacity : new int[] {4, 5, 31, 32}) {
      OverloadPicker x = new OverloadPicker(2, capacity);
      for (int i = 0; i < capacity - 1; i++) {
        x.addCall(0, 2);
      }
      Check.due("addLiteral as the last node", x.addLiteral(4, 1), capacity - 1);
      Check.refused("addLiteral on a full program", x.addLiteral(4, 1));
      Check.program(x, capacity, capacity - 1);
    }
  }

  private static void refusedWhenComplete() {
    OverloadPicker x = new OverloadPicker(2, 32);
    Check.due("addLiteral", x.addLiteral(4, 5), 0);
    Check.refused("addLiteral on a complete program", x.addLiteral(4, 6));
    x.resolve();
    Check.refused("addLiteral on a resolved program", x.addLiteral(4, 6));
    x.clearProgram();
    x.addCall(0, 0);
    Check.refused("addLiteral behind a call of no arguments", x.addLiteral(4, 6));
    x.clearProgram();
    x.addCall(0, 1);
    x.addLiteral(4, 6);
    Check.refused("addLiteral behind a whole call", x.addLiteral(4, 6));
    Check.program(x, 2, 0);
  }

  private static void refusedChangesNothing() {
    States.neverChanged("addLiteral(0, 9)", x -> Check.refused("addLiteral(0, 9)", x.addLiteral(0, 9)));
    States.neverChanged("addLiteral(15, 9)", x -> Check.refused("addLiteral(15, 9)", x.addLiteral(15, 9)));
    States.neverChanged("addLiteral(-1, 9)", x -> Check.refused("addLiteral(-1, 9)", x.addLiteral(-1, 9)));
    States.all().forEach((name, state) -> {
      if (name.contains("complete") || name.contains("resolved") || name.contains("full")) {
        String call = "addLiteral(6, 9) when " + name;
        States.unchanged(call, state, x -> Check.refused(call, x.addLiteral(6, 9)));
      }
    });
  }

  private static void answersTheOldCount() {
    OverloadPicker x = new OverloadPicker(2, 32);
    for (int i = 0; i < 16; i++) {
      x.addCall(0, 2);
      int before = x.nodeCount();
      Check.due("addLiteral", x.addLiteral(4, i), before);
    }
    Check.due("nodeCount()", x.nodeCount(), 32);
  }

  private static void counts() {
    OverloadPicker x = new OverloadPicker(2, 32);
    x.addCall(0, 4);
    for (int i = 1; i <= 4; i++) {
      x.addLiteral(i, i);
      Check.program(x, 1 + i, 4 - i);
    }
  }

  /** A resolved program is complete and takes no node, so only the results of a cleared one could show through. */
  private static void unresolved() {
    OverloadPicker x = States.resolved();
    x.clearProgram();
    x.addLiteral(4, 1);
    Check.unresolved(x, 0);
    OverloadPicker open = States.open();
    open.addLiteral(4, 1);
    for (int i = 0; i < 3; i++) {
      Check.unresolved(open, i);
    }
  }

  private static void keepsMethodsAndPhase() {
    OverloadPicker x = States.declared();
    x.addLiteral(4, 1);
    Check.due("methodCount()", x.methodCount(), 3);
    Check.due("lastPhase()", x.lastPhase(), 2);
    x.clearProgram();
    States.same("addLiteral and clearProgram()", x, States.declared());
  }
}
