public final class Promise04Pick {
  private static final int REFUSED = OverloadPicker.REFUSED;
  private static final int NO_MATCH = OverloadPicker.NO_MATCH;
  private static final int AMBIGUOUS = OverloadPicker.AMBIGUOUS;
  private static final int MIN = Integer.MIN_VALUE;
  private static final int MAX = Integer.MAX_VALUE;

  public static void main(String[] args) {
    Check.sentence("The list may hold 0..4 types.", Promise04Pick::upToFourTypes);
    Check.sentence("If name is not in 0..7 [..] it answers REFUSED, and lastPhase() is unchanged.", Promise04Pick::wrongName);
    Check.sentence("If [..] args is not a valid encoding, it answers REFUSED, and lastPhase() is unchanged.",
        Promise04Pick::wrongArgs);
    Check.sentence("Otherwise it applies RESOLUTION to all methods currently stored.", Promise04Pick::allMethodsOfNow);
    Check.sentence("Only methods whose name equals name can be applicable.", Promise04Pick::onlyThatName);
    Check.sentence("If a method is chosen, it answers that method's id.", Promise04Pick::answersTheId);
    Check.sentence("Otherwise it answers NO_MATCH or AMBIGUOUS.", Promise04Pick::noMatchOrAmbiguous);
    Check.sentence("It sets lastPhase() to the deciding phase: 0 for NO_MATCH, and 1, 2 or 3 otherwise.",
        Promise04Pick::setsLastPhase);
    Check.sentence("It touches nothing else. The methods and the program stay as they were, including every node result and"
        + " whether the program is resolved.", Promise04Pick::touchesNothingElse);
    Check.sentence("If it answers an id m >= 0, then all of the following hold with p = lastPhase(): m is applicable in phase p;"
        + " no method is applicable in any phase before p; and for every other method m2 applicable in phase p, m is strictly"
        + " more specific than m2.", Promise04Pick::agreesWithPairs);
    Check.sentence("It answers AMBIGUOUS exactly when some phase has an applicable method and no method applicable in the"
        + " earliest such phase is strictly more specific than every other one applicable there.",
        Promise04Pick::ambiguousInTheEarliest);
    Check.sentence("It answers NO_MATCH exactly when no method is applicable in any phase.", Promise04Pick::noMatch);
    Check.sentence("This includes the case of no stored methods", Promise04Pick::noStoredMethods);
    Check.sentence("and the case of no stored method of that name.", Promise04Pick::noMethodOfThatName);
    Check.sentence("lastPhase() answers the phase most recently set by a non-refused pick", Promise04Pick::mostRecentPhase);
    Check.sentence("or 0 if there has been none.", Promise04Pick::noPickYet);
    Check.sentence("It changes nothing.", () -> States.neverChanged("lastPhase()", OverloadPicker::lastPhase));
    Check.sentence("No other method alters it.", Promise04Pick::noOtherMethodAltersIt);
    Check.end();
  }

  /** Methods of name 0, each given by its params and its retFlags. */
  private static OverloadPicker with(int... paramsAndFlags) {
    OverloadPicker x = new OverloadPicker(16, 32);
    for (int i = 0; i < paramsAndFlags.length; i += 2) {
      Check.due("addMethod", x.addMethod(0, paramsAndFlags[i], paramsAndFlags[i + 1], 0), i / 2);
    }
    return x;
  }

  private static void upToFourTypes() {
    OverloadPicker x = with(0, 4, 0xE, 4, 0xEE, 4, 0xEEE, 4, 0xEEEE, 4);
    Check.picked(x, 0, 0, 0, 1);
    Check.picked(x, 0, 0x7, 1, 1);
    Check.picked(x, 0, 0x87, 2, 1);
    Check.picked(x, 0, 0x987, 3, 1);
    Check.picked(x, 0, 0xA987, 4, 1);
    Check.picked(x, 0, 0xBA987, REFUSED, 1);
  }

  private static void wrongName() {
    OverloadPicker x = with(0x4, 4, 0x4, 20);
    int[] lists = {0x5, 0x4, 0xA, 0x44};
    for (int phase = 0; phase <= 3; phase++) {
      x.pick(0, lists[phase]);
      for (int name : new int[] {MIN, -8, -1, 8, 9, 16, MAX}) {
        Check.picked(x, name, 0x4, REFUSED, phase);
        Check.picked(x, name, 0, REFUSED, phase);
      }
    }
  }

  private static void wrongArgs() {
    OverloadPicker x = with(0x4, 4, 0x4, 20);
    int[] lists = {0x5, 0x4, 0xA, 0x44};
    int[] wrong = {
      -1, MIN, MIN + 4, 0xF, 0xF4, 0x4F, 0x40, 0x404, 0x4000, 0x44444, 0x10000, 0x14444, 0x40000004, 0x44444444, MAX
    };
    for (int phase = 0; phase <= 3; phase++) {
      x.pick(0, lists[phase]);
      for (int args : wrong) {
        Check.picked(x, 0, args, REFUSED, phase);
        Check.picked(x, 8, args, REFUSED, phase);
      }
    }
  }

  private static void allMethodsOfNow() {
    OverloadPicker x = new OverloadPicker(16, 32);
    for (int type = 1; type <= 14; type++) {
      Check.picked(x, 0, 0x44, NO_MATCH, 0);
      x.addMethod(0, type, 4, 0);
      Check.picked(x, 0, type, type - 1, 1);
    }
    x.addMethod(0, 0xE, 20, 0);
    Check.picked(x, 0, 0x44, 14, 3);
    x.addMethod(0, 0xEE, 4, 0);
    Check.picked(x, 0, 0x44, 15, 2);
    for (int type = 1; type <= 14; type++) {
      Check.picked(x, 0, type, type - 1, 1);
    }
  }

  private static void onlyThatName() {
    OverloadPicker x = new OverloadPicker(16, 32);
    for (int name = 0; name < 8; name++) {
      x.addMethod(name, 0x5, 4, 0);
      x.addMethod(name, name % 2 == 0 ? 0x4 : 0x6, 4, 0);
    }
    for (int name = 0; name < 8; name++) {
      Check.picked(x, name, 0x4, name % 2 == 0 ? 2 * name + 1 : 2 * name, 1);
    }
  }

  private static void answersTheId() {
    OverloadPicker x = with(0x6, 4, 0xA, 4, 0x44, 20);
    Check.picked(x, 0, 0x6, 0, 1);
    Check.picked(x, 0, 0x4, 1, 2);
    Check.picked(x, 0, 0x44, 2, 3);
  }

  private static void noMatchOrAmbiguous() {
    OverloadPicker x = with(0x54, 4, 0x45, 4);
    Check.picked(x, 0, 0x66, NO_MATCH, 0);
    Check.picked(x, 0, 0x44, AMBIGUOUS, 1);
    Check.picked(x, 0, 0xAA, AMBIGUOUS, 2);
  }

  private static void setsLastPhase() {
    OverloadPicker x = with(0x54, 4, 0x45, 4, 0xB, 20, 0xBB, 20);
    int[] lists = {0x6, 0x55, 0x54, 0x44, 0x5A, 0xA4, 0, 0xB, 0xBBB};
    int[] answers = {NO_MATCH, AMBIGUOUS, 0, AMBIGUOUS, 0, AMBIGUOUS, 2, AMBIGUOUS, AMBIGUOUS};
    int[] phases = {0, 3, 1, 1, 2, 2, 3, 3, 3};
    // Each after each, so that none rests on what stood there before.
    for (int before = 0; before < lists.length; before++) {
      for (int i = 0; i < lists.length; i++) {
        x.pick(0, lists[before]);
        Check.picked(x, 0, lists[i], answers[i], phases[i]);
      }
    }
  }

  private static void touchesNothingElse() {
    int[] lists = {0x4, 0xA, 0x44, 0, 0x5, 0x404};
    States.all().forEach((name, state) -> {
      for (int list : lists) {
        for (int method = 0; method <= 8; method += 2) {
          OverloadPicker used = state.get();
          used.pick(method, list);
          States.sameButLastPhase("pick(" + method + ", " + list + ") when " + name, used, state.get());
        }
      }
    });
    OverloadPicker x = States.resolved();
    Check.picked(x, 0, 0x4, 0, 1);
    Check.node(x, 0, OverloadPicker.OK, 1, 14, 3, 65533L);
  }

  /** A table of sixteen answers as its methods do alone and in pairs, whatever the call. */
  private static void agreesWithPairs() {
    int[] methods = {
      0x4, 4, 0x5, 4, 0xA, 4, 0xD, 4, 0xE, 4, 0x44, 4, 0x45, 4, 0x54, 4, 0xAA, 4, 0x5E, 4, 0xEE, 4,
      0x4, 20, 0x5, 20, 0xE, 20, 0x44, 20, 0xA4, 20
    };
    int count = methods.length / 2;
    OverloadPicker all = with(methods);
    // Pairs of a method with itself hold it alone: the second is refused.
    OverloadPicker[][] pairs = new OverloadPicker[count][count];
    for (int m = 0; m < count; m++) {
      for (int m2 = 0; m2 < count; m2++) {
        pairs[m][m2] = new OverloadPicker(2, 4);
        pairs[m][m2].addMethod(0, methods[2 * m], methods[2 * m + 1], 0);
        pairs[m][m2].addMethod(0, methods[2 * m2], methods[2 * m2 + 1], 0);
      }
    }
    for (int list = 0; list <= 0xEEE; list++) {
      // Every list of up to two types, and those of three that begin with an int.
      if (all.pick(0, list) != REFUSED && (list < 0x100 || (list & 15) == 4)) {
        Check.picked(all, 0, list, dueByPairs(pairs, list), phaseByPairs(pairs, list));
      }
    }
  }

  private static int lonePhase(OverloadPicker[][] pairs, int m, int list) {
    return pairs[m][m].pick(0, list) == NO_MATCH ? 4 : pairs[m][m].lastPhase();
  }

  private static int phaseByPairs(OverloadPicker[][] pairs, int list) {
    int earliest = 4;
    for (int m = 0; m < pairs.length; m++) {
      earliest = Math.min(earliest, lonePhase(pairs, m, list));
    }
    return earliest % 4;
  }

  private static int dueByPairs(OverloadPicker[][] pairs, int list) {
    int phase = phaseByPairs(pairs, list);
    for (int m = 0; m < pairs.length; m++) {
      boolean best = lonePhase(pairs, m, list) == phase;
      for (int m2 = 0; m2 < pairs.length; m2++) {
        boolean rival = m2 != m && lonePhase(pairs, m2, list) == phase;
        best = best && (!rival || pairs[m][m2].pick(0, list) == 0);
      }
      if (best) {
        return m;
      }
    }
    return phase == 0 ? NO_MATCH : AMBIGUOUS;
  }

  private static void ambiguousInTheEarliest() {
    // One method in phase 1 settles what phases 2 and 3 could not.
    Check.picked(with(0x44, 4, 0xEA, 4, 0xAE, 4), 0, 0x44, 0, 1);
    Check.picked(with(0x4, 4, 0x4, 20, 0x44, 20), 0, 0x4, 0, 1);
    Check.picked(with(0xE, 4, 0x4, 20, 0x44, 20), 0, 0x4, 0, 2);
    // And one method in phase 2 or 3 does not settle what phase 1 could not.
    Check.picked(with(0x54, 4, 0x45, 4, 0xAA, 4, 0x44, 20), 0, 0x44, AMBIGUOUS, 1);
    Check.picked(with(0x5E, 4, 0xE5, 4, 0x44, 20), 0, 0x44, AMBIGUOUS, 2);
    Check.picked(with(0x4, 20, 0x44, 20), 0, 0x44, AMBIGUOUS, 3);
  }

  private static void noMatch() {
    OverloadPicker x = with(0x44, 4, 0x644, 20);
    Check.picked(x, 0, 0x44, 0, 1);
    Check.picked(x, 0, 0, NO_MATCH, 0);
    Check.picked(x, 0, 0x4, NO_MATCH, 0);
    Check.picked(x, 0, 0x54, NO_MATCH, 0);
    Check.picked(x, 0, 0x444, NO_MATCH, 0);
    Check.picked(x, 0, 0x6644, 1, 3);
    Check.picked(x, 0, 0x4644, NO_MATCH, 0);
  }

  private static void noStoredMethods() {
    OverloadPicker x = new OverloadPicker(2, 4);
    for (int name = 0; name < 8; name++) {
      for (int list : new int[] {0, 0x1, 0xE, 0x44, 0xEEEE}) {
        Check.picked(x, name, list, NO_MATCH, 0);
      }
    }
  }

  private static void noMethodOfThatName() {
    OverloadPicker x = new OverloadPicker(16, 32);
    x.addMethod(3, 0, 4, 0);
    x.addMethod(3, 0xE, 20, 0);
    for (int name = 0; name < 8; name++) {
      x.pick(3, 0x4);
      Check.picked(x, name, 0, name == 3 ? 0 : NO_MATCH, name == 3 ? 1 : 0);
      x.pick(3, 0x4);
      Check.picked(x, name, 0xE, name == 3 ? 1 : NO_MATCH, name == 3 ? 3 : 0);
    }
  }

  private static void mostRecentPhase() {
    OverloadPicker x = with(0x4, 4, 0x4, 20);
    int[] lists = {0x4, 0xA, 0x44, 0x6, 0xA, 0x4, 0x6, 0x44};
    int[] phases = {1, 2, 3, 0, 2, 1, 0, 3};
    for (int i = 0; i < lists.length; i++) {
      x.pick(0, lists[i]);
      Check.due("lastPhase()", x.lastPhase(), phases[i]);
      x.pick(-1, 0x4);
      x.pick(0, -1);
      Check.due("lastPhase() after refused picks", x.lastPhase(), phases[i]);
    }
  }

  private static void noPickYet() {
    OverloadPicker x = with(0x4, 4, 0x4, 20);
    Check.due("lastPhase()", x.lastPhase(), 0);
    x.pick(8, 0x4);
    x.pick(0, 0x44444);
    Check.due("lastPhase() after refused picks", x.lastPhase(), 0);
    x.addCall(0, 1);
    x.addLiteral(4, 1);
    x.resolve();
    Check.due("lastPhase() after resolve()", x.lastPhase(), 0);
  }

  private static void noOtherMethodAltersIt() {
    int[] lists = {0x5, 0x4, 0xA, 0x44};
    for (int phase = 0; phase <= 3; phase++) {
      OverloadPicker x = with(0x4, 4, 0x4, 20);
      x.pick(0, lists[phase]);
      for (int call = 0; call < 30; call++) {
        otherCall(x, call);
        Check.due("lastPhase() after call no. " + call, x.lastPhase(), phase);
      }
    }
  }

  /** A program with a node of each phase and one of none, and every call that is not pick, refused ones too. */
  private static void otherCall(OverloadPicker x, int call) {
    int[] argc = {4, 1, -1, 1, -2, 2, -1, -1, 1, -3};
    if (call < argc.length) {
      int kind = argc[call];
      Check.due("node", kind < 0 ? x.addLiteral(new int[] {4, 10, 6}[-kind - 1], 1) : x.addCall(0, kind), call);
      return;
    }
    switch (call) {
      case 10: Check.due("resolve()", x.resolve(), OverloadPicker.ARG_ERROR); break;
      case 11: Check.due("nodePhase(1)", x.nodePhase(1), 1); break;
      case 12: Check.due("nodePhase(3)", x.nodePhase(3), 2); break;
      case 13: Check.due("nodePhase(5)", x.nodePhase(5), 3); break;
      case 14: Check.due("nodePhase(8)", x.nodePhase(8), 0); break;
      case 15: x.nodeStatus(0); break;
      case 16: x.nodeMethod(0); break;
      case 17: x.nodeType(0); break;
      case 18: x.nodeValue(0); break;
      case 19: x.convertible(4, 10, 2); break;
      case 20: x.addMethod(0, 0x4, 4, 0); break;
      case 21: x.addMethod(0, 0x6, 4, 0); break;
      case 22: x.resolve(); break;
      case 23: x.addLiteral(4, 1); break;
      case 24: x.addCall(0, 1); break;
      case 25: x.methodCount(); break;
      case 26: x.nodeCount(); break;
      case 27: x.pending(); break;
      case 28: x.clearProgram(); break;
      default: x.resolve(); break;
    }
  }
}
