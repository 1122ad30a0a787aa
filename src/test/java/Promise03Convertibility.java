public final class Promise03Convertibility {
  // Row = from, column = to, types 1..14: '=' strict (and loose), 'x' loose only, '.' neither.
  private static final String[] TABLE = {
    "==.==.x.....xx",
    ".=.==..x....xx",
    "..===...x....x",
    "...==....x..xx",
    "....=.....x.xx",
    ".....=.....x.x",
    "xx.xx.=.....==",
    ".x.xx..=....==",
    "..xxx...=....=",
    "...xx....=..==",
    "....x.....=.==",
    ".....x.....=.=",
    "............==",
    ".............=",
  };

  public static void main(String[] args) {
    OverloadPicker x = new OverloadPicker(2, 4);
    for (int from = 1; from <= 14; from++) {
      for (int to = 1; to <= 14; to++) {
        char kind = TABLE[from - 1].charAt(to - 1);
        due(x, from, to, 1, kind == '=');
        due(x, from, to, 2, kind != '.');
        due(x, from, to, 3, kind != '.');
      }
    }
    int[] edges = {Integer.MIN_VALUE, -1, 0, 15, 16, 20, Integer.MAX_VALUE};
    for (int wrong : edges) {
      for (int phase = 1; phase <= 3; phase++) {
        for (int type = 1; type <= 14; type++) {
          due(x, wrong, type, phase, false);
          due(x, type, wrong, phase, false);
        }
        due(x, wrong, wrong, phase, false);
      }
    }
    for (int phase : new int[] {Integer.MIN_VALUE, -1, 0, 4, 5, Integer.MAX_VALUE}) {
      due(x, 4, 4, phase, false);
      due(x, 4, 10, phase, false);
      due(x, 0, 0, phase, false);
    }
    changesNothing();
    Check.end();
  }

  private static void due(OverloadPicker x, int from, int to, int phase, boolean want) {
    Check.due("convertible(" + from + ", " + to + ", " + phase + ")", x.convertible(from, to, phase), want);
  }

  private static void changesNothing() {
    OverloadPicker x = new OverloadPicker(2, 4);
    x.addMethod(0, 4, 4, 0);
    x.pick(0, 4);
    x.addLiteral(4, 9);
    x.resolve();
    due(x, 4, 10, 2, true);
    due(x, 4, 10, 3, true);
    due(x, 4, 15, 3, false);
    Check.due("lastPhase()", x.lastPhase(), 1);
    Check.due("methodCount()", x.methodCount(), 1);
    Check.program(x, 1, 0);
    Check.node(x, 0, OverloadPicker.OK, -1, 4, 0, 9L);
  }
}
