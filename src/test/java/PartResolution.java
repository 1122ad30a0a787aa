/** "Methods, applicability, specificity, resolution", seen through pick. */
public final class PartResolution {
  private static final int NO_MATCH = OverloadPicker.NO_MATCH;
  private static final int AMBIGUOUS = OverloadPicker.AMBIGUOUS;
  private static final int PLAIN = 4;
  private static final int VARARGS = 20;

  public static void main(String[] args) {
    Check.sentence("Method m has id 0, 1, 2, ... in order of addition.", PartResolution::idsInOrder);
    Check.sentence("If m is varargs, it has f = k-1 fixed parameters and element type E = P(k).",
        PartResolution::fixedParametersAndElement);
    Check.sentence("exists only if name(m) == x", PartResolution::onlyTheSameName);
    Check.sentence("phase 1: m is not varargs, k == n, and A(i) is strict-compatible with P(i) for all i.",
        PartResolution::strictPhase);
    Check.sentence("phase 2: m is not varargs, k == n, and A(i) is loose-compatible with P(i) for all i.",
        PartResolution::loosePhase);
    Check.sentence("phase 3: m is varargs, n >= f", PartResolution::enoughForTheFixed);
    Check.sentence("A(i) is loose-compatible with P(i) for i <= f", PartResolution::everyFixedPlace);
    Check.sentence("A(i) is loose-compatible with E for f < i <= n", PartResolution::everyVariablePlace);
    Check.sentence("phases 1 and 2: P_m(i) <: P_m2(i) for all i in 1..n.", PartResolution::everyPlaceCounts);
    Check.sentence("phase 3: X_m(i) <: X_m2(i) for all i in 1..n+1, where X(i) = P(i) if i <= f, else E.",
        PartResolution::onePlaceMore);
    Check.sentence("m is STRICTLY more specific than m2 iff m >= m2 and not m2 >= m.", PartResolution::equalIsNotStrict);
    Check.sentence("The deciding phase is the first of 1, 2, 3 having at least one applicable method.",
        PartResolution::firstPhaseDecides);
    Check.sentence("If no phase has one, the outcome is NO_MATCH with phase 0.", PartResolution::noPhase);
    Check.sentence("Otherwise the chosen method is the applicable one (in that phase) that is strictly more specific than"
        + " every other method applicable in that phase.", PartResolution::beatsEveryOther);
    Check.sentence("A lone applicable method is chosen.", PartResolution::loneMethod);
    Check.sentence("If no such method exists, the outcome is AMBIGUOUS with the deciding phase.",
        PartResolution::ambiguousInEachPhase);
    Check.sentence("Return types play no part.", PartResolution::returnsPlayNoPart);
    Check.end();
  }

  /** Methods of name 0, each given by its params and its retFlags. */
  private static OverloadPicker with(int... paramsAndFlags) {
    OverloadPicker x = new OverloadPicker(16, 32);
    for (int i = 0; i < paramsAndFlags.length; i += 2) {
      Check.due("addMethod", x.addMethod(0, paramsAndFlags[i], paramsAndFlags[i + 1], 0), i / 2);
    }
    return x;
  }

  private static OverloadPicker plain(int... params) {
    return flagged(PLAIN, params);
  }

  private static OverloadPicker varargs(int... params) {
    return flagged(VARARGS, params);
  }

  private static OverloadPicker flagged(int flags, int[] params) {
    int[] paramsAndFlags = new int[2 * params.length];
    for (int i = 0; i < params.length; i++) {
      paramsAndFlags[2 * i] = params[i];
      paramsAndFlags[2 * i + 1] = flags;
    }
    return with(paramsAndFlags);
  }

  private static int repeated(int type, int length) {
    return type * 0x1111 & (1 << 4 * length) - 1;
  }

  private static int replaced(int list, int place, int type) {
    return list & ~(15 << 4 * place) | type << 4 * place;
  }

  private static void idsInOrder() {
    OverloadPicker x = new OverloadPicker(16, 32);
    for (int id = 0; id < 16; id++) {
      Check.due("addMethod", x.addMethod(7 - id % 8, 0xE - id / 8, PLAIN, 0), id);
    }
    for (int id = 0; id < 16; id++) {
      Check.picked(x, 7 - id % 8, 0xE - id / 8, id, 1);
    }
  }

  private static void fixedParametersAndElement() {
    // Booleans first, then ints: the k-th parameter alone repeats, and it may be left out.
    for (int k = 1; k <= 4; k++) {
      OverloadPicker x = varargs(replaced(repeated(6, k), k - 1, 4));
      for (int n = 0; n <= 4; n++) {
        int args = repeated(6, Math.min(n, k - 1));
        for (int i = k - 1; i < n; i++) {
          args = replaced(args, i, 4);
        }
        Check.picked(x, 0, args, n >= k - 1 ? 0 : NO_MATCH, n >= k - 1 ? 3 : 0);
      }
    }
  }

  private static void onlyTheSameName() {
    for (int flags : new int[] {PLAIN, VARARGS}) {
      for (int name = 0; name <= 7; name++) {
        OverloadPicker x = new OverloadPicker(16, 32);
        x.addMethod(name, 0x4, flags, 0);
        for (int called = 0; called <= 7; called++) {
          boolean same = called == name;
          Check.picked(x, called, 0x4, same ? 0 : NO_MATCH, !same ? 0 : flags == PLAIN ? 1 : 3);
        }
      }
    }
  }

  /** A call of types a meets f of k parameters p: each length of call, and each place spoilt by a boolean. */
  private static void fixedArity(int a, int p, int phase) {
    for (int k = 0; k <= 4; k++) {
      OverloadPicker x = plain(repeated(p, k));
      for (int n = 0; n <= 4; n++) {
        int due = k == 0 ? 1 : phase;
        Check.picked(x, 0, repeated(a, n), n == k ? 0 : NO_MATCH, n == k ? due : 0);
      }
      for (int place = 0; place < k; place++) {
        Check.picked(x, 0, replaced(repeated(a, k), place, 6), NO_MATCH, 0);
      }
    }
  }

  private static void strictPhase() {
    fixedArity(4, 4, 1);
    fixedArity(1, 5, 1);
    fixedArity(9, 9, 1);
    // A varargs method is not looked at in phase 1, however well it fits.
    Check.picked(with(0x4, VARARGS, 0x5, PLAIN), 0, 0x4, 1, 1);
    Check.picked(varargs(0x4), 0, 0x4, 0, 3);
    // One boxing among four places is enough to leave phase 1.
    for (int place = 0; place < 4; place++) {
      Check.picked(plain(0x4444), 0, replaced(0x4444, place, 0xA), 0, 2);
    }
  }

  private static void loosePhase() {
    fixedArity(4, 10, 2);
    fixedArity(10, 5, 2);
    fixedArity(1, 13, 2);
    // Nor in phase 2.
    Check.picked(with(0xA, VARARGS, 0xE, PLAIN), 0, 0x4, 1, 2);
    Check.picked(varargs(0xA), 0, 0x4, 0, 3);
  }

  private static void enoughForTheFixed() {
    for (int k = 1; k <= 4; k++) {
      OverloadPicker x = varargs(repeated(4, k));
      for (int n = 0; n <= 4; n++) {
        boolean enough = n >= k - 1;
        Check.picked(x, 0, repeated(4, n), enough ? 0 : NO_MATCH, enough ? 3 : 0);
      }
    }
    // A method of fixed arity is not looked at in phase 3.
    Check.picked(with(0x4, PLAIN, 0xE, VARARGS), 0, 0, 1, 3);
    Check.picked(with(0x4, PLAIN, 0xE, VARARGS), 0, 0x44, 1, 3);
    Check.picked(plain(0x44), 0, 0x4, NO_MATCH, 0);
  }

  private static void everyFixedPlace() {
    OverloadPicker x = varargs(0xE444);
    Check.picked(x, 0, 0x444, 0, 3);
    Check.picked(x, 0, 0xAAA, 0, 3);
    for (int place = 0; place < 3; place++) {
      Check.picked(x, 0, replaced(0x444, place, 6), NO_MATCH, 0);
      Check.picked(x, 0, replaced(0x6444, place, 6), NO_MATCH, 0);
      Check.picked(x, 0, replaced(0x6444, place, 9), 0, 3);
    }
  }

  private static void everyVariablePlace() {
    for (int fixed = 0; fixed <= 3; fixed++) {
      OverloadPicker x = varargs(replaced(repeated(14, fixed + 1), fixed, 4));
      for (int n = fixed + 1; n <= 4; n++) {
        for (int place = 0; place < n; place++) {
          boolean free = place < fixed;
          Check.picked(x, 0, replaced(repeated(4, n), place, 6), free ? 0 : NO_MATCH, free ? 3 : 0);
          Check.picked(x, 0, replaced(repeated(4, n), place, 10), 0, 3);
        }
      }
    }
  }

  private static void everyPlaceCounts() {
    for (int phase = 1; phase <= 2; phase++) {
      int a = phase == 1 ? 4 : 10;
      for (int n = 1; n <= 4; n++) {
        int wide = repeated(5, n);
        for (int place = 0; place < n; place++) {
          Check.picked(plain(wide, replaced(wide, place, 4)), 0, repeated(a, n), 1, phase);
          Check.picked(plain(replaced(wide, place, 4), wide), 0, repeated(a, n), 0, phase);
          int next = (place + 1) % n;
          if (next != place) {
            OverloadPicker x = plain(replaced(wide, place, 4), replaced(wide, next, 4));
            Check.picked(x, 0, repeated(a, n), AMBIGUOUS, phase);
          }
        }
      }
    }
    // Boxing makes an argument fit, but no parameter more specific: long and Integer stay apart.
    Check.picked(plain(0x5A, 0xE5), 0, 0x44, AMBIGUOUS, 2);
  }

  private static void onePlaceMore() {
    // The places of the arguments are equal; the place behind the last alone decides.
    for (int n = 0; n <= 3; n++) {
      int fixed = repeated(4, n);
      Check.picked(varargs(replaced(fixed, n, 5), replaced(fixed, n, 4)), 0, fixed, 1, 3);
      Check.picked(varargs(replaced(fixed, n, 4), replaced(fixed, n, 5)), 0, fixed, 0, 3);
      Check.picked(varargs(replaced(fixed, n, 4), replaced(fixed, n, 6)), 0, fixed, AMBIGUOUS, 3);
    }
    // With four arguments places 4 and 5 are both E.
    Check.picked(varargs(0x5444, 0x4444), 0, 0x4444, 1, 3);
    // The place behind the last speaks against the one that the arguments' places favour.
    Check.picked(varargs(0x54, 0x45), 0, 0x4, AMBIGUOUS, 3);
    Check.picked(varargs(0x64, 0x5), 0, 0x4, AMBIGUOUS, 3);
    // X(f) is the fixed parameter, X(f+1) the element.
    Check.picked(varargs(0x54, 0x4), 0, 0x44, 1, 3);
    Check.picked(varargs(0x45, 0x5), 0, 0x44, 0, 3);
    Check.picked(varargs(0x45, 0x4), 0, 0x44, 1, 3);
    Check.picked(varargs(0x454, 0x54), 0, 0x444, 0, 3);
  }

  private static void equalIsNotStrict() {
    OverloadPicker x = varargs(0x4, 0x44);
    Check.picked(x, 0, 0, 0, 3);
    Check.picked(x, 0, 0x4, AMBIGUOUS, 3);
    Check.picked(x, 0, 0x44, AMBIGUOUS, 3);
    Check.picked(x, 0, 0x4444, AMBIGUOUS, 3);
    Check.picked(varargs(0x4444, 0x444), 0, 0x444, AMBIGUOUS, 3);
    // Two equals do not stand in the way of a third that beats both.
    Check.picked(varargs(0x5, 0x55, 0x4), 0, 0x4, 2, 3);
  }

  private static void firstPhaseDecides() {
    OverloadPicker x = with(0x4, VARARGS, 0xA, PLAIN, 0x5, PLAIN);
    Check.picked(x, 0, 0x4, 2, 1);
    Check.picked(x, 0, 0xA, 1, 1);
    Check.picked(x, 0, 0x9, 2, 2);
    Check.picked(x, 0, 0x44, 0, 3);
    Check.picked(x, 0, 0, 0, 3);
    Check.picked(with(0, PLAIN, 0x4, VARARGS), 0, 0, 0, 1);
    // A more specific method of a later phase does not take part.
    Check.picked(plain(0x4, 0xE), 0, 0xA, 1, 1);
    Check.picked(with(0x1, VARARGS, 0xE, PLAIN), 0, 0x1, 1, 2);
  }

  private static void noPhase() {
    OverloadPicker x = with(0x4, PLAIN, 0x44, VARARGS);
    Check.picked(x, 0, 0x4, 0, 1);
    Check.picked(x, 0, 0x5, NO_MATCH, 0);
    Check.picked(x, 0, 0xA, 0, 2);
    Check.picked(x, 0, 0, NO_MATCH, 0);
    Check.picked(x, 0, 0x44, 1, 3);
    Check.picked(x, 0, 0x46, NO_MATCH, 0);
  }

  private static void beatsEveryOther() {
    Check.picked(plain(0x5, 0x4, 0x2), 0, 0x1, 2, 1);
    Check.picked(plain(0x2, 0x4, 0x5), 0, 0x1, 0, 1);
    Check.picked(plain(0x4, 0x2, 0x5), 0, 0x1, 1, 1);
    Check.picked(plain(0xE, 0xD, 0xA), 0, 0x4, 2, 2);
    Check.picked(plain(0x55, 0x45, 0x54, 0x44), 0, 0x44, 3, 1);
    // The third loses to both of the others, but neither of those beats the other.
    Check.picked(plain(0x54, 0x45, 0x55), 0, 0x44, AMBIGUOUS, 1);
    // The first and the last each beat the second alone.
    Check.picked(plain(0x545, 0x555, 0x554), 0, 0x444, AMBIGUOUS, 1);
    // A method that is not applicable is no rival: f(boolean, byte) stands beside these two.
    Check.picked(plain(0x54, 0x16, 0x44), 0, 0x44, 2, 1);
    // In a full table the last can beat fifteen others.
    OverloadPicker x = plain(
        0x5555, 0x5554, 0x5545, 0x5544, 0x5455, 0x5454, 0x5445, 0x5444,
        0x4555, 0x4554, 0x4545, 0x4544, 0x4455, 0x4454, 0x4445, 0x4444);
    Check.picked(x, 0, 0x4444, 15, 1);
    Check.picked(x, 0, 0x5444, 7, 1);
    Check.picked(x, 0, 0x5555, 0, 1);
  }

  private static void loneMethod() {
    Check.picked(plain(0xE), 0, 0xA, 0, 1);
    Check.picked(plain(0xE), 0, 0x4, 0, 2);
    Check.picked(varargs(0xE), 0, 0x44, 0, 3);
    Check.picked(plain(0), 0, 0, 0, 1);
    Check.picked(plain(0x6, 0xE, 0x44), 0, 0xA, 1, 1);
    Check.picked(plain(0x6, 0x44, 0xE), 0, 0x4, 2, 2);
    Check.picked(with(0x6, VARARGS, 0x4, PLAIN, 0xD, VARARGS), 0, 0x44, 2, 3);
  }

  private static void ambiguousInEachPhase() {
    Check.picked(plain(0x54, 0x45), 0, 0x44, AMBIGUOUS, 1);
    Check.picked(plain(0xDD, 0x55), 0, 0xA4, AMBIGUOUS, 2);
    Check.picked(varargs(0x54, 0x45), 0, 0x44, AMBIGUOUS, 3);
    // A later phase does not help, though it has one method that would be chosen.
    Check.picked(with(0x54, PLAIN, 0x45, PLAIN, 0xEE, PLAIN), 0, 0x44, AMBIGUOUS, 1);
    Check.picked(with(0x54, PLAIN, 0x45, PLAIN, 0x4, VARARGS), 0, 0x44, AMBIGUOUS, 1);
    Check.picked(with(0x55, PLAIN, 0xDD, PLAIN, 0xE, VARARGS), 0, 0xA4, AMBIGUOUS, 2);
  }

  private static void returnsPlayNoPart() {
    for (int first = 1; first <= 14; first++) {
      for (int second = 1; second <= 14; second++) {
        Check.picked(with(0x4, first, 0x5, second), 0, 0x1, 0, 1);
        Check.picked(with(0x54, first, 0x45, second), 0, 0x44, AMBIGUOUS, 1);
        Check.picked(with(0x4, 16 + first, 0x44, 16 + second), 0, 0x4, AMBIGUOUS, 3);
      }
    }
  }
}
