public final class Promise08Clearing {
  public static void main(String[] args) {
    Check.sentence("clearProgram() empties the program: nodeCount() becomes 0, pending() becomes 1",
        Promise08Clearing::empties);
    Check.sentence("the program is UNRESOLVED", Promise08Clearing::unresolved);
    Check.sentence("The methods and lastPhase() are kept.", Promise08Clearing::keepsTheRest);
    Check.sentence("It may be called in any state", Promise08Clearing::anyState);
    Check.sentence("including on an already empty program.", Promise08Clearing::alreadyEmpty);
    Check.end();
  }

  private static void empties() {
    OverloadPicker x = new OverloadPicker(2, 32);
    for (int nodes = 0; nodes <= 32; nodes++) {
      for (int i = 0; i < nodes; i++) {
        x.addCall(0, 4);
      }
      Check.program(x, nodes, 1 + 3 * nodes);
      x.clearProgram();
      Check.program(x, 0, 1);
      Check.absent(x, 0);
      Check.refused("resolve()", x.resolve());
    }
  }

  /** An empty program has no node to read it from: the old results must not show through a new one. */
  private static void unresolved() {
    OverloadPicker x = States.resolved();
    x.clearProgram();
    for (int i = 0; i < 3; i++) {
      Check.absent(x, i);
    }
    x.addCall(0, 1);
    Check.unresolved(x, 0);
    x.addLiteral(4, 6);
    Check.unresolved(x, 0);
    Check.unresolved(x, 1);
    Check.absent(x, 2);
    Check.due("resolve()", x.resolve(), OverloadPicker.OK);
    Check.node(x, 0, OverloadPicker.OK, 0, 4, 1, 13L);
    Check.absent(x, 2);
  }

  private static void keepsTheRest() {
    int[] lists = {0x46, 0x4, 0xA, 0x44};
    for (int phase = 1; phase <= 3; phase++) {
      OverloadPicker x = States.resolved();
      x.pick(0, lists[phase]);
      x.clearProgram();
      Check.due("lastPhase()", x.lastPhase(), phase);
      Check.due("methodCount()", x.methodCount(), 3);
      Check.picked(x, 0, 0x4, 0, 1);
      Check.picked(x, 0, 0x44, 1, 3);
      Check.picked(x, 1, 0x1, 2, 3);
    }
    OverloadPicker full = States.fullOfMethods();
    full.clearProgram();
    Check.due("methodCount()", full.methodCount(), 4);
    Check.refused("addMethod", full.addMethod(5, 0x6, 4, 0));
    Check.picked(full, 2, 0, 3, 1);
  }

  private static void anyState() {
    States.all().forEach((name, state) -> {
      OverloadPicker x = state.get();
      int methods = x.methodCount();
      int phase = x.lastPhase();
      x.clearProgram();
      Check.program(x, 0, 1);
      Check.due("methodCount() when " + name, x.methodCount(), methods);
      Check.due("lastPhase() when " + name, x.lastPhase(), phase);
      if (methods == 3) {
        States.same("clearProgram() when " + name, x, States.declared());
      }
    });
  }

  private static void alreadyEmpty() {
    States.unchanged("clearProgram() on a new object", States::fresh, OverloadPicker::clearProgram);
    States.unchanged("clearProgram() without a node", States::declared, OverloadPicker::clearProgram);
    OverloadPicker x = States.resolved();
    x.clearProgram();
    x.clearProgram();
    Check.program(x, 0, 1);
    States.same("clearProgram() twice", x, States.declared());
  }
}
