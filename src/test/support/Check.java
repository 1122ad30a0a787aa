/** Runs the tests of the document's sentences and prints every answer that is not as due; a boolean counts 1 or 0. */
final class Check {
  private static String sentence = "";
  private static int sentences = 0;
  private static int wrong = 0;

  private Check() {
  }

  /** The words are the document's own, so that a wrong answer names the sentence that it breaks. */
  static void sentence(String words, Runnable test) {
    sentence = "\"" + words + "\": ";
    sentences++;
    test.run();
    sentence = "";
  }

  static void due(String call, long got, long want) {
    if (got != want) {
      wrong++;
      System.out.println(sentence + call + " answered " + got + ", due is " + want);
    }
  }

  static void due(String call, boolean got, boolean want) {
    due(call, got ? 1L : 0L, want ? 1L : 0L);
  }

  static void refused(String call, int got) {
    due(call, got, OverloadPicker.REFUSED);
  }

  /** The five results of one node. */
  static void node(OverloadPicker x, int i, int status, int method, int type, int phase, long value) {
    due("nodeStatus(" + i + ")", x.nodeStatus(i), status);
    due("nodeMethod(" + i + ")", x.nodeMethod(i), method);
    due("nodeType(" + i + ")", x.nodeType(i), type);
    due("nodePhase(" + i + ")", x.nodePhase(i), phase);
    due("nodeValue(" + i + ")", x.nodeValue(i), value);
  }

  static void unresolved(OverloadPicker x, int i) {
    node(x, i, OverloadPicker.UNRESOLVED, -1, 0, 0, 0L);
  }

  static void absent(OverloadPicker x, int i) {
    node(x, i, OverloadPicker.REFUSED, -1, 0, 0, 0L);
  }

  static void program(OverloadPicker x, int nodeCount, int pending) {
    due("nodeCount()", x.nodeCount(), nodeCount);
    due("pending()", x.pending(), pending);
  }

  static void picked(OverloadPicker x, int name, int args, int answer, int phase) {
    String call = "pick(" + name + ", 0x" + Integer.toHexString(args) + ")";
    due(call, x.pick(name, args), answer);
    due("lastPhase() after " + call, x.lastPhase(), phase);
  }

  static void end() {
    System.out.println(wrong + " answers not as due" + (sentences > 0 ? ", " + sentences + " sentences looked at" : ""));
    if (wrong != 0) {
      System.exit(1);
    }
  }
}
