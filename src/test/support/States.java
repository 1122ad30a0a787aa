import java.util.ArrayList;
import java.util.LinkedHashMap;
import java.util.List;
import java.util.Map;
import java.util.function.Consumer;
import java.util.function.Supplier;

/** Objects in the states that the document tells apart, and what can be seen of a state from outside. */
final class States {
  static final int CAPACITY_OF_METHODS = 4;
  static final int CAPACITY_OF_NODES = 6;

  private States() {
  }

  static Map<String, Supplier<OverloadPicker>> all() {
    Map<String, Supplier<OverloadPicker>> states = new LinkedHashMap<>();
    states.put("fresh", States::fresh);
    states.put("declared", States::declared);
    states.put("open", States::open);
    states.put("complete", States::complete);
    states.put("resolved", States::resolved);
    states.put("resolved with errors", States::resolvedWithErrors);
    states.put("full of methods", States::fullOfMethods);
    states.put("full of nodes and open", States::fullAndOpen);
    states.put("full of nodes and complete", States::fullAndComplete);
    states.put("full of nodes and resolved", States::fullAndResolved);
    return states;
  }

  static OverloadPicker fresh() {
    return new OverloadPicker(CAPACITY_OF_METHODS, CAPACITY_OF_NODES);
  }

  /** Three methods of four, and a last phase that is not 0. */
  static OverloadPicker declared() {
    OverloadPicker x = fresh();
    x.addMethod(0, 0x4, 4, 7);
    x.addMethod(0, 0xE, 30, -3);
    x.addMethod(1, 0xE1, 21, 100);
    x.pick(0, 0xA);
    return x;
  }

  static OverloadPicker open() {
    OverloadPicker x = declared();
    x.addCall(0, 2);
    x.addLiteral(4, 1);
    return x;
  }

  static OverloadPicker complete() {
    OverloadPicker x = open();
    x.addLiteral(3, -1);
    return x;
  }

  static OverloadPicker resolved() {
    OverloadPicker x = complete();
    x.resolve();
    return x;
  }

  static OverloadPicker resolvedWithErrors() {
    OverloadPicker x = declared();
    x.addCall(0, 1);
    x.addCall(7, 0);
    x.resolve();
    return x;
  }

  static OverloadPicker fullOfMethods() {
    OverloadPicker x = complete();
    x.addMethod(2, 0, 6, 1);
    x.resolve();
    return x;
  }

  static OverloadPicker fullAndOpen() {
    OverloadPicker x = declared();
    for (int i = 0; i < CAPACITY_OF_NODES; i++) {
      x.addCall(0, 4);
    }
    return x;
  }

  static OverloadPicker fullAndComplete() {
    OverloadPicker x = declared();
    x.addCall(0, 4);
    x.addLiteral(1, 200);
    x.addLiteral(12, 3);
    x.addLiteral(14, -9);
    x.addCall(0, 1);
    x.addLiteral(4, 5);
    return x;
  }

  static OverloadPicker fullAndResolved() {
    OverloadPicker x = fullAndComplete();
    x.resolve();
    return x;
  }

  /** In every state the call leaves an object that can't be told from one that did not get it. */
  static void neverChanged(String call, Consumer<OverloadPicker> use) {
    all().forEach((name, state) -> unchanged(call + " when " + name, state, use));
  }

  static void unchanged(String call, Supplier<OverloadPicker> state, Consumer<OverloadPicker> use) {
    OverloadPicker used = state.get();
    use.accept(used);
    same(call, used, state.get());
    // On an object of its own, before any reader could wrongly set it on both sides.
    OverloadPicker again = state.get();
    use.accept(again);
    Check.due("lastPhase() after " + call, again.lastPhase(), state.get().lastPhase());
  }

  /** Uses both objects up. */
  static void same(String call, OverloadPicker used, OverloadPicker kept) {
    compare(call, future(used, true), future(kept, true));
  }

  static void sameButLastPhase(String call, OverloadPicker used, OverloadPicker kept) {
    compare(call, future(used, false), future(kept, false));
  }

  private static void compare(String call, List<Long> got, List<Long> want) {
    int first = 0;
    while (first < got.size() && got.get(first).equals(want.get(first))) {
      first++;
    }
    Check.due("the first difference made by " + call, first, want.size());
  }

  /** What the calls from here on answer; each run of it makes the same number of calls. */
  private static List<Long> future(OverloadPicker x, boolean withLastPhase) {
    List<Long> answers = new ArrayList<>();
    lookAt(x, answers);
    if (withLastPhase) {
      answers.add((long) x.lastPhase());
    }
    answers.add((long) x.resolve());
    lookAt(x, answers);
    for (int i = 0; i < 33; i++) {
      answers.add((long) x.addLiteral(4, i));
    }
    answers.add((long) x.resolve());
    lookAt(x, answers);
    for (int name = 0; name < 8; name++) {
      pickAll(x, name, answers);
      evaluateAll(x, name, answers);
    }
    for (int i = 0; i < 17; i++) {
      answers.add((long) x.addMethod(3, i % 15 * 16 + 1, 4, i));
    }
    lookAt(x, answers);
    x.clearProgram();
    for (int i = 0; i < 33; i++) {
      answers.add((long) x.addCall(i % 8, 4));
    }
    lookAt(x, answers);
    return answers;
  }

  /** The results come first: a reader that wrongly ended them would otherwise do so on both sides. */
  private static void lookAt(OverloadPicker x, List<Long> answers) {
    for (int i = 0; i < 34; i++) {
      answers.add((long) x.nodeStatus(i));
      answers.add((long) x.nodeMethod(i));
      answers.add((long) x.nodeType(i));
      answers.add((long) x.nodePhase(i));
      answers.add(x.nodeValue(i));
    }
    answers.add((long) x.nodeStatus(-1));
    answers.add((long) x.methodCount());
    answers.add((long) x.nodeCount());
    answers.add((long) x.pending());
  }

  private static void pickAll(OverloadPicker x, int name, List<Long> answers) {
    for (int first = 0; first <= 14; first++) {
      for (int second = 0; second <= (first == 0 ? 0 : 14); second++) {
        answers.add((long) x.pick(name, first | second << 4));
        answers.add((long) x.lastPhase());
      }
    }
  }

  /** Shows the return types and the constants. */
  private static void evaluateAll(OverloadPicker x, int name, List<Long> answers) {
    for (int[] types : new int[][] {{}, {1}, {4}, {14}, {1, 4}, {1, 14}}) {
      x.clearProgram();
      x.addCall(name, types.length);
      for (int type : types) {
        x.addLiteral(type, 3);
      }
      answers.add((long) x.resolve());
      answers.add((long) x.nodeMethod(0));
      answers.add((long) x.nodeType(0));
      answers.add(x.nodeValue(0));
    }
  }
}
