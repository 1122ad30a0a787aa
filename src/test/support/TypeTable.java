/** The document's compatibilities as a table, written out by hand. */
final class TypeTable {
  // Row = from, column = to, types 1..14: '=' strict (and loose), 'x' loose only, '.' neither.
  private static final String[] ROWS = {
    "==.==.x.....xx",
    ".=.==..x....xx",
    "..===...x....x",
    "...==....x..xx",
    "....=.....x.xx",
    ".....=.....x.x",
    "xx.xx.=.....==",
    ".x.xx..=....==",
    "..xxx...=....=",
    "...xx....=..==",
    "....x.....=.==",
    ".....x.....=.=",
    "............==",
    ".............=",
  };

  private TypeTable() {
  }

  static boolean strict(int from, int to) {
    return ROWS[from - 1].charAt(to - 1) == '=';
  }

  static boolean loose(int from, int to) {
    return ROWS[from - 1].charAt(to - 1) != '.';
  }
}
