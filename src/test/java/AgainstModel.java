import java.util.ArrayList;
import java.util.List;
import java.util.Set;

/** Long runs of calls, answered beside OverloadPicker by a model written from the document's words with lists. */
public final class AgainstModel {
  private static final int REFUSED = OverloadPicker.REFUSED;
  private static final Set<Integer> WIDENINGS = Set.of(102, 104, 105, 204, 205, 304, 305, 405);
  private static final Set<Integer> NUMBERS = Set.of(7, 8, 10, 11);

  private record Method(int name, List<Integer> params, int returns, boolean varargs, int constant) {
  }

  private record Node(int name, int argc, int type, long value) {
  }

  private record Result(int status, int method, int type, int phase, long value) {
  }

  private record Outcome(int answer, int phase) {
  }

  private static long state = 1;

  private final int maxMethods;
  private final int maxNodes;
  private final List<Method> methods = new ArrayList<>();
  private final List<Node> nodes = new ArrayList<>();
  private Result[] results;
  private int lastPhase;

  private AgainstModel(int maxMethods, int maxNodes) {
    this.maxMethods = Math.max(2, Math.min(16, maxMethods));
    this.maxNodes = Math.max(4, Math.min(32, maxNodes));
  }

  public static void main(String[] args) {
    int resolutions = 0;
    for (int run = 0; run < 3000; run++) {
      resolutions += oneRun();
    }
    Check.due("enough programs were resolved", resolutions > 10000, true);
    Check.end();
  }

  private static int oneRun() {
    int maxMethods = below(20);
    int maxNodes = below(36);
    int names = 1 + below(3);
    OverloadPicker x = new OverloadPicker(maxMethods, maxNodes);
    AgainstModel model = new AgainstModel(maxMethods, maxNodes);
    int resolutions = 0;
    for (int step = 0; step < 120; step++) {
      resolutions += oneCall(x, model, names);
      model.compareState(x);
    }
    return resolutions;
  }

  private static int oneCall(OverloadPicker x, AgainstModel model, int names) {
    int name = below(30) == 0 ? below(12) - 2 : below(names);
    int list = anyList();
    switch (below(12)) {
      case 0:
      case 1:
        int flags = below(20) == 0 ? below(80) - 16 : 1 + below(14) + 16 * below(2);
        int constant = anyInt();
        Check.due("addMethod", x.addMethod(name, list, flags, constant), model.addMethod(name, list, flags, constant));
        return 0;
      case 2:
      case 3:
        Check.due("pick", x.pick(name, list), model.pick(name, list));
        return 0;
      case 4:
      case 5:
      case 6:
        int type = below(20) == 0 ? below(20) - 2 : 1 + below(14);
        int value = anyInt();
        Check.due("addLiteral", x.addLiteral(type, value), model.addLiteral(type, value));
        return 0;
      case 7:
      case 8:
        int argc = below(20) == 0 ? below(10) - 3 : below(5);
        Check.due("addCall", x.addCall(name, argc), model.addCall(name, argc));
        return 0;
      case 9:
        if (below(2) == 0) {
          x.clearProgram();
          model.nodes.clear();
          model.results = null;
        }
        return 0;
      default:
        int due = model.resolve();
        Check.due("resolve", x.resolve(), due);
        return due == REFUSED ? 0 : 1;
    }
  }

  /** A fixed sequence: the same numbers in every run of the test. */
  private static int below(int bound) {
    state = state * 6364136223846793005L + 1442695040888963407L;
    return (int) ((state >>> 33) % bound);
  }

  private static int anyInt() {
    int kind = below(3);
    return kind == 0 ? below(10) - 5 : kind == 1 ? below(200000) - 100000 : below(Integer.MAX_VALUE) * 2 + below(2);
  }

  private static int anyList() {
    int list = 0;
    int length = below(5);
    for (int i = 0; i < length; i++) {
      list |= (1 + below(14)) << (4 * i);
    }
    return below(25) == 0 ? list ^ (1 << below(32)) : list;
  }

  private static List<Integer> decode(int list) {
    String digits = new StringBuilder(String.format("%08x", list)).reverse().toString();
    int length = (digits + "0").indexOf('0');
    if (length > 4 || digits.contains("f") || !digits.substring(length).matches("0*")) {
      return null;
    }
    List<Integer> types = new ArrayList<>();
    for (int i = 0; i < length; i++) {
      types.add(Character.digit(digits.charAt(i), 16));
    }
    return types;
  }

  private int addMethod(int name, int params, int flags, int constant) {
    List<Integer> types = decode(params);
    if (methods.size() == maxMethods || name < 0 || name > 7 || types == null) {
      return REFUSED;
    }
    if (flags < 0 || flags > 31 || flags % 16 == 0 || flags % 16 == 15 || flags > 15 && types.isEmpty()) {
      return REFUSED;
    }
    boolean varargs = flags > 15;
    for (Method m : methods) {
      if (m.name == name && m.varargs == varargs && m.params.equals(types)) {
        return REFUSED;
      }
    }
    methods.add(new Method(name, types, flags % 16, varargs, constant));
    results = null;
    return methods.size() - 1;
  }

  private int pick(int name, int args) {
    List<Integer> types = decode(args);
    if (name < 0 || name > 7 || types == null) {
      return REFUSED;
    }
    Outcome outcome = choose(name, types);
    lastPhase = outcome.phase;
    return outcome.answer;
  }

  private Outcome choose(int name, List<Integer> types) {
    for (int phase = 1; phase <= 3; phase++) {
      List<Method> applicable = new ArrayList<>();
      for (Method m : methods) {
        if (m.name == name && applicable(m, types, phase)) {
          applicable.add(m);
        }
      }
      if (!applicable.isEmpty()) {
        return new Outcome(best(applicable, types.size(), phase), phase);
      }
    }
    return new Outcome(OverloadPicker.NO_MATCH, 0);
  }

  private int best(List<Method> applicable, int n, int phase) {
    for (Method m : applicable) {
      boolean beatsAll = true;
      for (Method other : applicable) {
        beatsAll &= m == other || specific(m, other, n, phase) && !specific(other, m, n, phase);
      }
      if (beatsAll) {
        return methods.indexOf(m);
      }
    }
    return OverloadPicker.AMBIGUOUS;
  }

  private static boolean applicable(Method m, List<Integer> types, int phase) {
    int n = types.size();
    int k = m.params.size();
    if (m.varargs != (phase == 3) || (m.varargs ? n < k - 1 : n != k)) {
      return false;
    }
    for (int i = 1; i <= n; i++) {
      if (!compatible(types.get(i - 1), parameter(m, i), phase > 1)) {
        return false;
      }
    }
    return true;
  }

  private static boolean specific(Method m, Method other, int n, int phase) {
    int places = phase == 3 ? n + 1 : n;
    for (int i = 1; i <= places; i++) {
      if (!subtype(parameter(m, i), parameter(other, i))) {
        return false;
      }
    }
    return true;
  }

  private static int parameter(Method m, int i) {
    int k = m.params.size();
    return m.varargs && i > k - 1 ? m.params.get(k - 1) : m.params.get(i - 1);
  }

  private static boolean compatible(int a, int p, boolean loose) {
    return subtype(a, p) || loose && a <= 6 && subtype(a + 6, p) || loose && a >= 7 && a <= 12 && subtype(a - 6, p);
  }

  private static boolean subtype(int s, int t) {
    return s == t || WIDENINGS.contains(100 * s + t) || NUMBERS.contains(s) && t == 13 || s >= 7 && s <= 13 && t == 14;
  }

  private static long narrow(int t, long v) {
    switch (t) {
      case 1: case 7: return (byte) v;
      case 2: case 8: return (short) v;
      case 3: case 9: return (char) v;
      case 4: case 10: return (int) v;
      case 6: case 12: return v & 1;
      default: return v;
    }
  }

  private int pending() {
    int pending = 1;
    for (Node node : nodes) {
      pending += node.argc - 1;
    }
    return pending;
  }

  private boolean open() {
    return nodes.size() < maxNodes && pending() > 0;
  }

  private int addLiteral(int type, int value) {
    return type < 1 || type > 14 ? REFUSED : add(new Node(-1, 0, type, narrow(type, value)));
  }

  private int addCall(int name, int argc) {
    return name < 0 || name > 7 || argc < 0 || argc > 4 ? REFUSED : add(new Node(name, argc, 0, 0));
  }

  private int add(Node node) {
    if (!open()) {
      return REFUSED;
    }
    nodes.add(node);
    results = null;
    return nodes.size() - 1;
  }

  private int resolve() {
    if (pending() != 0) {
      return REFUSED;
    }
    results = new Result[nodes.size()];
    evaluate(0);
    return results[0].status;
  }

  /** Top-down by recursion, unlike the class; answers the index behind the subtree. */
  private int evaluate(int i) {
    Node node = nodes.get(i);
    if (node.name < 0) {
      results[i] = new Result(1, -1, node.type, 0, node.value);
      return i + 1;
    }
    List<Integer> types = new ArrayList<>();
    long sum = 0;
    boolean failed = false;
    int next = i + 1;
    for (int k = 0; k < node.argc; k++) {
      int argument = next;
      next = evaluate(argument);
      types.add(results[argument].type);
      sum += results[argument].value;
      failed |= results[argument].status != 1;
    }
    results[i] = failed ? new Result(OverloadPicker.ARG_ERROR, -1, 0, 0, 0) : callResult(node.name, types, sum);
    return next;
  }

  private Result callResult(int name, List<Integer> types, long sum) {
    Outcome outcome = choose(name, types);
    if (outcome.answer < 0) {
      return new Result(outcome.answer, -1, 0, outcome.phase, 0);
    }
    Method m = methods.get(outcome.answer);
    return new Result(1, outcome.answer, m.returns, outcome.phase, narrow(m.returns, m.constant + sum));
  }

  private void compareState(OverloadPicker x) {
    Check.due("methodCount()", x.methodCount(), methods.size());
    Check.due("lastPhase()", x.lastPhase(), lastPhase);
    Check.program(x, nodes.size(), pending());
    for (int i = -1; i <= nodes.size(); i++) {
      if (i < 0 || i == nodes.size()) {
        Check.node(x, i, REFUSED, -1, 0, 0, 0);
      } else if (results == null) {
        Check.unresolved(x, i);
      } else {
        Result r = results[i];
        Check.node(x, i, r.status, r.method, r.type, r.phase, r.value);
      }
    }
  }
}
