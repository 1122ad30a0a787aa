public final class Promise03Convertibility {
  private static final int MIN = Integer.MIN_VALUE;
  private static final int MAX = Integer.MAX_VALUE;
  private static final OverloadPicker X = new OverloadPicker(2, 4);

  public static void main(String[] args) {
    Check.sentence("answers false if from or to is not in 1..14", Promise03Convertibility::wrongTypes);
    Check.sentence("or if phase is not in 1..3", Promise03Convertibility::wrongPhases);
    Check.sentence("for phase 1 it answers STRICT-compatible(from, to)", Promise03Convertibility::strict);
    Check.sentence("for phase 2 or 3 it answers LOOSE-compatible(from, to)", Promise03Convertibility::loose);
    Check.sentence("It changes nothing.", Promise03Convertibility::changesNothing);
    Check.end();
  }

  private static void due(int from, int to, int phase, boolean want) {
    Check.due("convertible(" + from + ", " + to + ", " + phase + ")", X.convertible(from, to, phase), want);
  }

  private static void wrongTypes() {
    for (int wrong : new int[] {MIN, -14, -6, -1, 0, 15, 16, 20, MAX}) {
      for (int phase = 1; phase <= 3; phase++) {
        for (int type = 1; type <= 14; type++) {
          due(wrong, type, phase, false);
          due(type, wrong, phase, false);
        }
        due(wrong, wrong, phase, false);
      }
    }
    for (int phase = 1; phase <= 3; phase++) {
      due(1, 1, phase, true);
      due(14, 14, phase, true);
    }
  }

  private static void wrongPhases() {
    for (int phase : new int[] {MIN, -1, 0, 4, 5, MAX}) {
      for (int type = 1; type <= 14; type++) {
        due(type, type, phase, false);
        due(type, 14, phase, false);
      }
      due(0, 0, phase, false);
    }
  }

  private static void strict() {
    for (int from = 1; from <= 14; from++) {
      for (int to = 1; to <= 14; to++) {
        due(from, to, 1, TypeTable.strict(from, to));
      }
    }
  }

  private static void loose() {
    for (int from = 1; from <= 14; from++) {
      for (int to = 1; to <= 14; to++) {
        due(from, to, 2, TypeTable.loose(from, to));
        due(from, to, 3, TypeTable.loose(from, to));
      }
    }
  }

  private static void changesNothing() {
    States.neverChanged("convertible(4, 10, 3)", x -> x.convertible(4, 10, 3));
    States.neverChanged("convertible(4, 10, 1)", x -> x.convertible(4, 10, 1));
    States.neverChanged("convertible(0, 15, 2)", x -> x.convertible(0, 15, 2));
    States.neverChanged("convertible(4, 4, 0)", x -> x.convertible(4, 4, 0));
  }
}
