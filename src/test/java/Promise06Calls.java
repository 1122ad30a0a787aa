public final class Promise06Calls {
  private static final int MIN = Integer.MIN_VALUE;
  private static final int MAX = Integer.MAX_VALUE;

  public static void main(String[] args) {
    Check.sentence("addCall(name, argc) adds a call node of the given name with argc arguments.",
        Promise06Calls::everyNameAndLength);
    Check.sentence("1. name is not in 0..7", Promise06Calls::wrongName);
    Check.sentence("2. argc is not in 0..4", Promise06Calls::wrongArgc);
    Check.sentence("3. nodeCount() equals the clamped maxNodes", Promise06Calls::full);
    Check.sentence("4. the program is complete", Promise06Calls::complete);
    Check.sentence("When refused, it answers REFUSED and changes nothing.", Promise06Calls::refusedChangesNothing);
    Check.sentence("Otherwise it answers the index of the new node, which equals the old nodeCount().",
        Promise06Calls::answersTheOldCount);
    Check.sentence("nodeCount() grows by one, pending() becomes pending - 1 + argc", Promise06Calls::counts);
    Check.sentence("the program becomes UNRESOLVED", Promise06Calls::unresolved);
    Check.sentence("Methods and lastPhase() do not change.", Promise06Calls::keepsMethodsAndPhase);
    Check.sentence("A call with argc 0 is complete by itself.", Promise06Calls::completeByItself);
    Check.sentence("If the node capacity is used up while pending() is still above 0, the program can never become complete"
        + " until it is cleared.", Promise06Calls::usedUp);
    Check.end();
  }

  private static void everyNameAndLength() {
    for (int name = 0; name <= 7; name++) {
      for (int argc = 0; argc <= 4; argc++) {
        OverloadPicker x = new OverloadPicker(2, 8);
        x.addMethod(7 - name, 0xE, 30, 0);
        x.addMethod(name, 0xEEEE & (1 << 4 * argc) - 1, 4, 50);
        Check.due("addCall(" + name + ", " + argc + ")", x.addCall(name, argc), 0);
        for (int i = 0; i < argc; i++) {
          x.addLiteral(14, 1);
        }
        Check.due("resolve()", x.resolve(), OverloadPicker.OK);
        Check.node(x, 0, OverloadPicker.OK, 1, 4, 1, 50L + argc);
      }
    }
  }

  private static void wrongName() {
    OverloadPicker x = new OverloadPicker(2, 4);
    for (int name : new int[] {MIN, -8, -1, 8, 9, 16, MAX}) {
      for (int argc = 0; argc <= 4; argc++) {
        Check.refused("addCall(" + name + ", " + argc + ")", x.addCall(name, argc));
      }
      Check.program(x, 0, 1);
    }
    Check.due("addCall(0, 1)", x.addCall(0, 1), 0);
    Check.due("addCall(7, 1)", x.addCall(7, 1), 1);
  }

  private static void wrongArgc() {
    OverloadPicker x = new OverloadPicker(2, 4);
    for (int argc : new int[] {MIN, -4, -1, 5, 6, 16, MAX}) {
      for (int name = 0; name <= 7; name++) {
        Check.refused("addCall(" + name + ", " + argc + ")", x.addCall(name, argc));
      }
      Check.program(x, 0, 1);
    }
    Check.due("addCall(0, 4)", x.addCall(0, 4), 0);
    Check.due("addCall(0, 0)", x.addCall(0, 0), 1);
  }

  private static void full() {
    for (int capacity : new int[] {4, 5, 31, 32}) {
      OverloadPicker x = new OverloadPicker(2, capacity);
      for (int i = 0; i < capacity; i++) {
        Check.due("addCall no. " + i, x.addCall(0, 4), i);
      }
      Check.refused("addCall(0, 4) on a full program", x.addCall(0, 4));
      Check.refused("addCall(0, 0) on a full program", x.addCall(0, 0));
      Check.program(x, capacity, 3 * capacity + 1);
    }
  }

  private static void complete() {
    OverloadPicker x = new OverloadPicker(2, 8);
    x.addMethod(0, 0, 4, 3);
    x.addCall(0, 0);
    for (int argc = 0; argc <= 4; argc++) {
      Check.refused("addCall on a complete program", x.addCall(0, argc));
    }
    Check.due("resolve()", x.resolve(), OverloadPicker.OK);
    for (int argc = 0; argc <= 4; argc++) {
      Check.refused("addCall on a resolved program", x.addCall(0, argc));
    }
    Check.program(x, 1, 0);
    Check.node(x, 0, OverloadPicker.OK, 0, 4, 1, 3L);
    x.clearProgram();
    x.addLiteral(4, 1);
    Check.refused("addCall behind a literal", x.addCall(0, 1));
  }

  private static void refusedChangesNothing() {
    States.neverChanged("addCall(8, 1)", x -> Check.refused("addCall(8, 1)", x.addCall(8, 1)));
    States.neverChanged("addCall(-1, 1)", x -> Check.refused("addCall(-1, 1)", x.addCall(-1, 1)));
    States.neverChanged("addCall(0, 5)", x -> Check.refused("addCall(0, 5)", x.addCall(0, 5)));
    States.neverChanged("addCall(0, -1)", x -> Check.refused("addCall(0, -1)", x.addCall(0, -1)));
    States.all().forEach((name, state) -> {
      if (name.contains("complete") || name.contains("resolved") || name.contains("full")) {
        for (int argc = 0; argc <= 4; argc++) {
          int given = argc;
          String call = "addCall(1, " + argc + ") when " + name;
          States.unchanged(call, state, x -> Check.refused(call, x.addCall(1, given)));
        }
      }
    });
  }

  private static void answersTheOldCount() {
    OverloadPicker x = new OverloadPicker(2, 32);
    for (int i = 0; i < 32; i++) {
      int before = x.nodeCount();
      Check.due("addCall", x.addCall(i % 8, 1 + i % 4), before);
    }
    Check.due("nodeCount()", x.nodeCount(), 32);
  }

  private static void counts() {
    int[] argc = {3, 2, 0, 4, 1, 0, 0};
    int[] pending = {3, 4, 3, 6, 6, 5, 4};
    OverloadPicker x = new OverloadPicker(2, 32);
    for (int i = 0; i < argc.length; i++) {
      x.addCall(0, argc[i]);
      Check.program(x, i + 1, pending[i]);
    }
  }

  /** A resolved program is complete and takes no node, so only the results of a cleared one could show through. */
  private static void unresolved() {
    OverloadPicker x = States.resolved();
    x.clearProgram();
    x.addCall(0, 1);
    Check.unresolved(x, 0);
    OverloadPicker open = States.open();
    open.addCall(0, 0);
    for (int i = 0; i < 3; i++) {
      Check.unresolved(open, i);
    }
  }

  private static void keepsMethodsAndPhase() {
    OverloadPicker x = States.declared();
    x.addCall(0, 2);
    Check.due("methodCount()", x.methodCount(), 3);
    Check.due("lastPhase()", x.lastPhase(), 2);
    x.clearProgram();
    States.same("addCall and clearProgram()", x, States.declared());
  }

  private static void completeByItself() {
    OverloadPicker x = new OverloadPicker(2, 8);
    x.addMethod(0, 0, 4, 3);
    x.addCall(0, 0);
    Check.program(x, 1, 0);
    Check.due("resolve()", x.resolve(), OverloadPicker.OK);
    x.clearProgram();
    // As an argument it takes none of what follows it.
    x.addMethod(1, 0x64, 4, 10);
    x.addCall(1, 2);
    x.addCall(0, 0);
    x.addLiteral(6, 1);
    Check.program(x, 3, 0);
    Check.due("resolve()", x.resolve(), OverloadPicker.OK);
    Check.node(x, 0, OverloadPicker.OK, 1, 4, 1, 14L);
  }

  private static void usedUp() {
    for (int capacity : new int[] {4, 32}) {
      OverloadPicker x = new OverloadPicker(2, capacity);
      x.addMethod(0, 0xE, 20, 0);
      for (int i = 0; i < capacity; i++) {
        x.addCall(0, 1);
      }
      Check.program(x, capacity, 1);
      Check.refused("addLiteral", x.addLiteral(4, 1));
      Check.refused("addCall", x.addCall(0, 0));
      Check.refused("resolve()", x.resolve());
      Check.due("addMethod", x.addMethod(1, 0, 4, 0), 1);
      x.pick(0, 0x4);
      Check.refused("addLiteral", x.addLiteral(4, 1));
      Check.refused("resolve()", x.resolve());
      Check.program(x, capacity, 1);
      x.clearProgram();
      for (int i = 0; i < capacity - 1; i++) {
        Check.due("addCall", x.addCall(0, 1), i);
      }
      Check.due("addLiteral", x.addLiteral(4, 1), capacity - 1);
      Check.due("resolve()", x.resolve(), OverloadPicker.OK);
    }
  }
}
