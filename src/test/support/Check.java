/** Counts and prints the answers that are not as due; a boolean counts 1 or 0, as in the shared tests. */
final class Check {
  private static int wrong = 0;

  private Check() {
  }

  static void due(String call, long got, long want) {
    if (got != want) {
      wrong++;
      System.out.println(call + " answered " + got + ", due is " + want);
    }
  }

  static void due(String call, boolean got, boolean want) {
    due(call, got ? 1L : 0L, want ? 1L : 0L);
  }

  /** The five results of one node. */
  static void node(OverloadPicker x, int i, int status, int method, int type, int phase, long value) {
    due("nodeStatus(" + i + ")", x.nodeStatus(i), status);
    due("nodeMethod(" + i + ")", x.nodeMethod(i), method);
    due("nodeType(" + i + ")", x.nodeType(i), type);
    due("nodePhase(" + i + ")", x.nodePhase(i), phase);
    due("nodeValue(" + i + ")", x.nodeValue(i), value);
  }

  static void unresolved(OverloadPicker x, int i) {
    node(x, i, OverloadPicker.UNRESOLVED, -1, 0, 0, 0L);
  }

  static void program(OverloadPicker x, int nodeCount, int pending) {
    due("nodeCount()", x.nodeCount(), nodeCount);
    due("pending()", x.pending(), pending);
  }

  static void picked(OverloadPicker x, int name, int args, int answer, int phase) {
    String call = "pick(" + name + ", 0x" + Integer.toHexString(args) + ")";
    due(call, x.pick(name, args), answer);
    due("lastPhase() after " + call, x.lastPhase(), phase);
  }

  static void end() {
    System.out.println(wrong == 0 ? "all answers are as due" : wrong + " answers are not as due");
    if (wrong != 0) {
      System.exit(1);
    }
  }
}
