public final class Promise04Pick {
  private static final int REFUSED = OverloadPicker.REFUSED;
  private static final int NO_MATCH = OverloadPicker.NO_MATCH;
  private static final int AMBIGUOUS = OverloadPicker.AMBIGUOUS;

  public static void main(String[] args) {
    refusesWrongCalls();
    findsNothing();
    earliestPhaseDecides();
    mostSpecificWins();
    needsOneThatBeatsAll();
    variableArity();
    variableAritySpecificity();
    equalPlacesAreAmbiguous();
    looksThroughAFullTable();
    touchesNothingElse();
    Check.end();
  }

  private static OverloadPicker with(int... paramsAndFlags) {
    OverloadPicker x = new OverloadPicker(16, 32);
    for (int i = 0; i < paramsAndFlags.length; i += 2) {
      Check.due("addMethod", x.addMethod(0, paramsAndFlags[i], paramsAndFlags[i + 1], 0), i / 2);
    }
    return x;
  }

  private static void refusesWrongCalls() {
    OverloadPicker x = with(0x4, 4, 0xE, 30);
    Check.picked(x, 0, 0xA, 0, 2);
    for (int name : new int[] {Integer.MIN_VALUE, -1, 8, Integer.MAX_VALUE}) {
      Check.picked(x, name, 0x4, REFUSED, 2);
    }
    int[] wrong = {-1, Integer.MIN_VALUE, 0xF, 0xF4, 0x40, 0x404, 0x4000, 0x44444, 0x10000, 0x40000004, 0x44444444};
    for (int args : wrong) {
      Check.picked(x, 0, args, REFUSED, 2);
    }
    Check.picked(x, 0, 0x4444, 1, 3);
  }

  private static void findsNothing() {
    OverloadPicker x = new OverloadPicker(16, 32);
    Check.picked(x, 0, 0, NO_MATCH, 0);
    x.addMethod(0, 0x4, 4, 0);
    Check.picked(x, 0, 0x4, 0, 1);
    Check.picked(x, 1, 0x4, NO_MATCH, 0);
    Check.picked(x, 7, 0, NO_MATCH, 0);
    Check.picked(x, 0, 0x4, 0, 1);
    Check.picked(x, 0, 0, NO_MATCH, 0);
    Check.picked(x, 0, 0x44, NO_MATCH, 0);
    Check.picked(x, 0, 0x5, NO_MATCH, 0);
    Check.picked(x, 0, 0xE, NO_MATCH, 0);
  }

  private static void earliestPhaseDecides() {
    OverloadPicker x = with(0x4, 20, 0xA, 4, 0x5, 4);
    Check.picked(x, 0, 0x4, 2, 1);
    Check.picked(x, 0, 0xA, 1, 1);
    Check.picked(x, 0, 0x9, 2, 2);
    Check.picked(x, 0, 0x44, 0, 3);
    Check.picked(x, 0, 0, 0, 3);
    Check.picked(with(0x54, 4, 0xAA, 4), 0, 0xA4, AMBIGUOUS, 2);
    Check.picked(with(0x55, 4, 0xAA, 4, 0xEA, 4), 0, 0xA4, AMBIGUOUS, 2);
    Check.picked(with(0, 4, 0x4, 20), 0, 0, 0, 1);
  }

  private static void mostSpecificWins() {
    Check.picked(with(0x5, 4, 0x4, 4, 0x2, 4), 0, 0x1, 2, 1);
    Check.picked(with(0x2, 4, 0x4, 4, 0x5, 4), 0, 0x1, 0, 1);
    Check.picked(with(0xE, 4, 0xD, 4, 0xA, 4), 0, 0x4, 2, 2);
    Check.picked(with(0xE, 4, 0xD, 4), 0, 0xA, 1, 1);
    Check.picked(with(0x55, 4, 0x45, 4, 0x54, 4, 0x44, 4), 0, 0x44, 3, 1);
    Check.picked(with(0x5555, 4, 0x4555, 4), 0, 0x4444, 1, 1);
    Check.picked(with(0x45, 4, 0xA4, 4), 0, 0x94, 0, 2);
    // Boxing makes an argument fit, but no parameter more specific: long and Integer stay apart.
    Check.picked(with(0x5A, 4, 0xE5, 4), 0, 0x44, AMBIGUOUS, 2);
  }

  private static void needsOneThatBeatsAll() {
    Check.picked(with(0x54, 4, 0x45, 4), 0, 0x44, AMBIGUOUS, 1);
    // The third loses to both of the others, but neither of those beats the other.
    Check.picked(with(0x54, 4, 0x45, 4, 0x55, 4), 0, 0x44, AMBIGUOUS, 1);
    // The last is as specific as the second alone.
    Check.picked(with(0x545, 4, 0x555, 4, 0x554, 4), 0, 0x444, AMBIGUOUS, 1);
    Check.picked(with(0xD, 4, 0x5, 4), 0, 0x4, 1, 1);
    Check.picked(with(0xDD, 4, 0x55, 4), 0, 0xA4, AMBIGUOUS, 2);
  }

  private static void variableArity() {
    OverloadPicker x = with(0x54, 20);
    Check.picked(x, 0, 0, NO_MATCH, 0);
    Check.picked(x, 0, 0x4, 0, 3);
    Check.picked(x, 0, 0x54, 0, 3);
    Check.picked(x, 0, 0x4A4A, 0, 3);
    Check.picked(x, 0, 0xBBBA, 0, 3);
    Check.picked(x, 0, 0x6444, NO_MATCH, 0);
    Check.picked(x, 0, 0x5, NO_MATCH, 0);
    OverloadPicker y = with(0x4321, 20);
    Check.picked(y, 0, 0x21, NO_MATCH, 0);
    Check.picked(y, 0, 0x321, 0, 3);
    Check.picked(y, 0, 0x4321, 0, 3);
    Check.picked(y, 0, 0x5321, NO_MATCH, 0);
    OverloadPicker z = with(0xE, 30);
    Check.picked(z, 0, 0, 0, 3);
    Check.picked(z, 0, 0x6E1D, 0, 3);
  }

  private static void variableAritySpecificity() {
    // Without an argument the element types alone decide.
    Check.picked(with(0x5, 20, 0x4, 20), 0, 0, 1, 3);
    Check.picked(with(0x4, 20, 0x6, 20), 0, 0, AMBIGUOUS, 3);
    // One place beyond the arguments counts too.
    Check.picked(with(0x54, 20, 0x44, 20), 0, 0x4, 1, 3);
    Check.picked(with(0x54, 20, 0x45, 20), 0, 0x4, AMBIGUOUS, 3);
    Check.picked(with(0x64, 20, 0x5, 20), 0, 0x4, AMBIGUOUS, 3);
    Check.picked(with(0x4444, 20, 0x5444, 20), 0, 0x444, 0, 3);
    Check.picked(with(0x5444, 20, 0x4, 20), 0, 0x4444, 1, 3);
    // But not two: the third parameter of a method that needs more arguments is not looked at.
    Check.picked(with(0x4, 20, 0x65, 20), 0, 0x4, AMBIGUOUS, 3);
    Check.picked(with(0x65, 20, 0x4, 20, 0x644, 20), 0, 0, 1, 3);
  }

  private static void equalPlacesAreAmbiguous() {
    Check.picked(with(0x4, 20, 0x44, 20), 0, 0x4, AMBIGUOUS, 3);
    Check.picked(with(0x4, 20, 0x44, 20), 0, 0x444, AMBIGUOUS, 3);
    Check.picked(with(0x4, 20, 0x44, 20), 0, 0, 0, 3);
    Check.picked(with(0x5, 20, 0x55, 20, 0x4, 20), 0, 0x4, 2, 3);
  }

  private static void looksThroughAFullTable() {
    OverloadPicker x = new OverloadPicker(16, 32);
    for (int type = 1; type <= 14; type++) {
      x.addMethod(0, type, 4, 0);
    }
    x.addMethod(0, 0xE, 20, 0);
    x.addMethod(7, 0xEEEE, 4, 0);
    for (int type = 1; type <= 14; type++) {
      Check.picked(x, 0, type, type - 1, 1);
    }
    Check.picked(x, 0, 0x44, 14, 3);
    Check.picked(x, 7, 0xEEEE, 15, 1);
    Check.picked(x, 7, 0xE6E1, 15, 2);
    Check.picked(x, 6, 0xEEEE, NO_MATCH, 0);
  }

  private static void touchesNothingElse() {
    OverloadPicker x = with(0x4, 4, 0x5, 4);
    x.addCall(0, 1);
    x.addLiteral(4, 6);
    x.resolve();
    Check.due("lastPhase() after resolve()", x.lastPhase(), 0);
    Check.picked(x, 0, 0xA, 0, 2);
    Check.picked(x, 1, 0xA, NO_MATCH, 0);
    Check.picked(x, 9, 0xA, REFUSED, 0);
    Check.node(x, 0, OverloadPicker.OK, 0, 4, 1, 6L);
    Check.node(x, 1, OverloadPicker.OK, -1, 4, 0, 6L);
    Check.program(x, 2, 0);
    Check.due("methodCount()", x.methodCount(), 2);
    // No other call alters the last phase.
    Check.picked(x, 0, 0x4, 0, 1);
    x.addMethod(0, 0x6, 4, 0);
    x.resolve();
    x.clearProgram();
    x.addLiteral(6, 0);
    x.clearProgram();
    x.addCall(0, 1);
    x.addLiteral(10, 0);
    x.resolve();
    Check.due("lastPhase()", x.lastPhase(), 1);
  }
}
