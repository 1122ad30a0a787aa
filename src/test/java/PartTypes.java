/** "Public constants" and "Boxing, subtyping, compatibility". */
public final class PartTypes {
  private static final int NO_MATCH = OverloadPicker.NO_MATCH;
  private static final int[] OTHER_CODES = {Integer.MIN_VALUE, -16, -15, -1, 0, 15, 16, 17, 20, 30, Integer.MAX_VALUE};

  public static void main(String[] args) {
    Check.sentence("Any other code is an invalid type.", PartTypes::otherCodesAreInvalid);
    Check.sentence("method names are 0..7", PartTypes::eightNames);
    Check.sentence("MAX_ARGS = 4", PartTypes::fourArguments);
    Check.sentence("BOX of a primitive p (1..6) is p+6.", PartTypes::boxes);
    Check.sentence("UNBOX of r in 7..12 is r-6.", PartTypes::unboxes);
    Check.sentence("Types 13 and 14 have no unbox.", PartTypes::numberAndObjectStayBoxed);
    Check.sentence("S == T", PartTypes::everyTypeOfItself);
    Check.sentence("(S,T) is one of (1,2), (1,4), (1,5), (2,4), (2,5), (3,4), (3,5), (4,5)", PartTypes::widenings);
    Check.sentence("S is 7, 8, 10 or 11 and T == 13", PartTypes::numbers);
    Check.sentence("S is in 7..13 and T == 14.", PartTypes::objects);
    Check.sentence("Nothing else is a subtype.", PartTypes::nothingElseIsASubtype);
    Check.sentence("LOOSE-compatible(A,P): A <: P; or A in 1..6 and BOX(A) <: P; or A in 7..12 and UNBOX(A) <: P.",
        PartTypes::looseIsOneConversion);
    Check.end();
  }

  private static void otherCodesAreInvalid() {
    OverloadPicker x = new OverloadPicker(16, 32);
    for (int code : OTHER_CODES) {
      Check.due("convertible from " + code, x.convertible(code, 14, 2), false);
      Check.due("convertible to " + code, x.convertible(4, code, 2), false);
      Check.due("convertible from and to " + code, x.convertible(code, code, 1), false);
      Check.refused("addLiteral of type " + code, x.addLiteral(code, 1));
    }
    for (int code : new int[] {0, 15}) {
      Check.refused("addMethod of return type " + code, x.addMethod(0, 4, code, 1));
      Check.refused("addMethod varargs of return type " + code, x.addMethod(0, 4, 16 + code, 1));
    }
    Check.refused("addMethod with a parameter of type 15", x.addMethod(0, 15, 4, 1));
    Check.refused("pick with an argument of type 15", x.pick(0, 15));
    for (int type = 1; type <= 14; type++) {
      Check.due("convertible of type " + type, x.convertible(type, type, 1), true);
      Check.due("addMethod with type " + type, x.addMethod(0, type, type, 1), type - 1);
      Check.picked(x, 0, type, type - 1, 1);
      Check.due("addLiteral of type " + type, x.addLiteral(type, 1), 0);
      x.clearProgram();
    }
  }

  private static void eightNames() {
    OverloadPicker x = new OverloadPicker(16, 32);
    for (int name : new int[] {Integer.MIN_VALUE, -8, -1, 8, 9, 16, Integer.MAX_VALUE}) {
      Check.refused("addMethod of name " + name, x.addMethod(name, 4, 4, 0));
      Check.refused("pick of name " + name, x.pick(name, 4));
      Check.refused("addCall of name " + name, x.addCall(name, 0));
    }
    for (int name = 0; name <= 7; name++) {
      Check.due("addMethod of name " + name, x.addMethod(name, 4, 4, 0), name);
      Check.picked(x, name, 4, name, 1);
      Check.due("addCall of name " + name, x.addCall(name, 1), name);
    }
  }

  private static void fourArguments() {
    OverloadPicker x = new OverloadPicker(16, 32);
    Check.due("addMethod of four", x.addMethod(0, 0x4444, 4, 0), 0);
    Check.refused("addMethod of five", x.addMethod(0, 0x44444, 4, 0));
    Check.picked(x, 0, 0x4444, 0, 1);
    Check.refused("pick of five", x.pick(0, 0x44444));
    Check.refused("addCall of five", x.addCall(0, 5));
    Check.due("addCall of four", x.addCall(0, 4), 0);
  }

  /** What a call f(from) finds where f(to) is the only method: the phase, or NO_MATCH. */
  private static int phaseOf(int from, int to) {
    OverloadPicker x = new OverloadPicker(2, 4);
    x.addMethod(0, to, 4, 0);
    int answer = x.pick(0, from);
    return answer == 0 ? x.lastPhase() : answer;
  }

  private static void phase(int from, int to, int due) {
    Check.due("the phase of f(" + from + ") with f(" + to + ") declared", phaseOf(from, to), due);
  }

  private static void boxes() {
    for (int primitive = 1; primitive <= 6; primitive++) {
      for (int box = 7; box <= 12; box++) {
        phase(primitive, box, box == primitive + 6 ? 2 : NO_MATCH);
      }
    }
  }

  private static void unboxes() {
    for (int box = 7; box <= 12; box++) {
      phase(box, box - 6, 2);
    }
    // To the narrowest primitives only their own box unboxes.
    for (int box = 8; box <= 12; box++) {
      phase(box, 1, NO_MATCH);
    }
    phase(12, 5, NO_MATCH);
    phase(11, 6, NO_MATCH);
  }

  private static void numberAndObjectStayBoxed() {
    for (int to = 1; to <= 12; to++) {
      phase(13, to, NO_MATCH);
      phase(14, to, NO_MATCH);
    }
    // Taking 6 from Object's code gives Short, which is a Number.
    phase(14, 13, NO_MATCH);
    phase(13, 14, 1);
    phase(14, 14, 1);
  }

  private static void everyTypeOfItself() {
    for (int type = 1; type <= 14; type++) {
      phase(type, type, 1);
    }
  }

  private static void widenings() {
    int[][] pairs = {{1, 2}, {1, 4}, {1, 5}, {2, 4}, {2, 5}, {3, 4}, {3, 5}, {4, 5}};
    for (int[] pair : pairs) {
      phase(pair[0], pair[1], 1);
      phase(pair[1], pair[0], NO_MATCH);
    }
    // The neighbours of the list: byte and short are no chars, a char is no short, a boolean no number.
    int[][] others = {{1, 3}, {2, 3}, {3, 2}, {3, 1}, {4, 6}, {6, 4}, {6, 5}, {5, 6}};
    for (int[] pair : others) {
      phase(pair[0], pair[1], NO_MATCH);
    }
  }

  private static void numbers() {
    for (int type = 7; type <= 12; type++) {
      boolean number = type != 9 && type != 12;
      phase(type, 13, number ? 1 : NO_MATCH);
      phase(13, type, NO_MATCH);
    }
    phase(6, 13, NO_MATCH);
    phase(14, 13, NO_MATCH);
  }

  private static void objects() {
    for (int type = 7; type <= 13; type++) {
      phase(type, 14, 1);
      phase(14, type, NO_MATCH);
    }
    // A primitive is an Object only once it is boxed.
    for (int type = 1; type <= 6; type++) {
      phase(type, 14, 2);
    }
  }

  private static void nothingElseIsASubtype() {
    for (int from = 1; from <= 14; from++) {
      for (int to = 1; to <= 14; to++) {
        boolean strict = phaseOf(from, to) == 1;
        Check.due(from + " <: " + to, strict, TypeTable.strict(from, to));
      }
    }
  }

  private static void looseIsOneConversion() {
    for (int from = 1; from <= 14; from++) {
      for (int to = 1; to <= 14; to++) {
        boolean loose = phaseOf(from, to) != NO_MATCH;
        Check.due(from + " loose to " + to, loose, TypeTable.loose(from, to));
      }
    }
  }
}
