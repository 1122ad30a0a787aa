import java.util.function.Consumer;

public final class Promise10Results {
  private static final int MIN = Integer.MIN_VALUE;
  private static final int MAX = Integer.MAX_VALUE;

  public static void main(String[] args) {
    Check.sentence("None of them changes anything.", Promise10Results::noneChanges);
    Check.sentence("i outside 0..nodeCount()-1", Promise10Results::outside);
    Check.sentence("including any negative i", Promise10Results::negative);
    Check.sentence("and any i on an empty program", Promise10Results::emptyProgram);
    Check.sentence("valid i, program UNRESOLVED", Promise10Results::unresolved);
    Check.sentence("valid i, program resolved", Promise10Results::resolved);
    Check.sentence("set by the last resolve()", Promise10Results::lastResolve);
    Check.end();
  }

  private static void noneChanges() {
    for (int i : new int[] {MIN, -1, 0, 1, 2, 5, 6, 31, 32, MAX}) {
      unchanged("nodeStatus", i, x -> x.nodeStatus(i));
      unchanged("nodeMethod", i, x -> x.nodeMethod(i));
      unchanged("nodeType", i, x -> x.nodeType(i));
      unchanged("nodePhase", i, x -> x.nodePhase(i));
      unchanged("nodeValue", i, x -> x.nodeValue(i));
    }
  }

  private static void unchanged(String getter, int i, Consumer<OverloadPicker> use) {
    States.neverChanged(getter + "(" + i + ")", use);
  }

  private static void outside() {
    States.all().forEach((name, state) -> {
      OverloadPicker x = state.get();
      for (int i = x.nodeCount(); i < 70; i++) {
        Check.absent(x, i);
      }
      Check.absent(x, MAX);
      Check.absent(x, MAX - 1);
      Check.absent(x, 1 << 16);
    });
    // The indices of a longer program before, whose results are gone.
    OverloadPicker x = States.fullAndResolved();
    x.clearProgram();
    x.addLiteral(4, 1);
    x.resolve();
    Check.node(x, 0, OverloadPicker.OK, -1, 4, 0, 1L);
    for (int i = 1; i < 7; i++) {
      Check.absent(x, i);
    }
    largestProgram();
  }

  private static void largestProgram() {
    OverloadPicker x = new OverloadPicker(2, 32);
    for (int i = 0; i < 31; i++) {
      x.addCall(0, 1);
    }
    x.addLiteral(4, 1);
    Check.unresolved(x, 31);
    Check.absent(x, 32);
    x.resolve();
    Check.node(x, 31, OverloadPicker.OK, -1, 4, 0, 1L);
    Check.node(x, 30, OverloadPicker.NO_MATCH, -1, 0, 0, 0L);
    Check.node(x, 29, OverloadPicker.ARG_ERROR, -1, 0, 0, 0L);
    Check.absent(x, 32);
    Check.absent(x, 33);
  }

  private static void negative() {
    States.all().forEach((name, state) -> {
      OverloadPicker x = state.get();
      for (int i = -1; i > -70; i--) {
        Check.absent(x, i);
      }
      Check.absent(x, MIN);
      Check.absent(x, MIN + 1);
      Check.absent(x, -(1 << 16));
    });
  }

  private static void emptyProgram() {
    OverloadPicker fresh = States.fresh();
    OverloadPicker cleared = States.resolved();
    cleared.clearProgram();
    for (int i : new int[] {MIN, -1, 0, 1, 2, 3, 31, 32, MAX}) {
      Check.absent(fresh, i);
      Check.absent(cleared, i);
    }
  }

  private static void unresolved() {
    for (String name : new String[] {"open", "complete", "full of nodes and open", "full of nodes and complete"}) {
      OverloadPicker x = States.all().get(name).get();
      for (int i = 0; i < x.nodeCount(); i++) {
        Check.unresolved(x, i);
      }
    }
    OverloadPicker x = States.resolved();
    x.addMethod(5, 0x6, 4, 0);
    for (int i = 0; i < 3; i++) {
      Check.unresolved(x, i);
    }
  }

  private static void resolved() {
    OverloadPicker x = States.fullAndResolved();
    for (int time = 0; time < 2; time++) {
      Check.node(x, 0, OverloadPicker.OK, 1, 14, 3, -56 + 1 - 9 + 12 - 3);
      Check.node(x, 1, OverloadPicker.OK, -1, 1, 0, -56L);
      Check.node(x, 2, OverloadPicker.OK, -1, 12, 0, 1L);
      Check.node(x, 3, OverloadPicker.OK, -1, 14, 0, -9L);
      Check.node(x, 4, OverloadPicker.OK, 0, 4, 1, 12L);
      Check.node(x, 5, OverloadPicker.OK, -1, 4, 0, 5L);
    }
    OverloadPicker errors = States.resolvedWithErrors();
    Check.node(errors, 0, OverloadPicker.ARG_ERROR, -1, 0, 0, 0L);
    Check.node(errors, 1, OverloadPicker.NO_MATCH, -1, 0, 0, 0L);
  }

  private static void lastResolve() {
    OverloadPicker x = States.resolved();
    Check.node(x, 0, OverloadPicker.OK, 1, 14, 3, 65533L);
    x.addMethod(0, 0x44, 6, 2);
    x.resolve();
    Check.node(x, 0, OverloadPicker.OK, 3, 6, 1, 0L);
    // A refused resolve() sets nothing, and picks are not results.
    x.clearProgram();
    x.addCall(0, 1);
    x.resolve();
    Check.unresolved(x, 0);
    x.addLiteral(10, 1);
    x.resolve();
    Check.node(x, 0, OverloadPicker.OK, 0, 4, 2, 8L);
    x.pick(0, 0x44);
    Check.node(x, 0, OverloadPicker.OK, 0, 4, 2, 8L);
  }
}
