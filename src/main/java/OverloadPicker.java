public final class OverloadPicker {
  public static final int T_BYTE = 1, T_SHORT = 2, T_CHAR = 3, T_INT = 4, T_LONG = 5, T_BOOLEAN = 6;
  public static final int T_BYTE_OBJ = 7, T_SHORT_OBJ = 8, T_CHARACTER = 9, T_INTEGER = 10, T_LONG_OBJ = 11, T_BOOLEAN_OBJ = 12;
  public static final int T_NUMBER = 13, T_OBJECT = 14;
  public static final int PHASE_NONE = 0, PHASE_STRICT = 1, PHASE_LOOSE = 2, PHASE_VARARGS = 3;
  public static final int OK = 1, UNRESOLVED = 0, NO_MATCH = -1, AMBIGUOUS = -2, ARG_ERROR = -3, REFUSED = -4;
  public static final int VARARGS_FLAG = 16;
  public static final int NAMES = 8;
  public static final int MAX_ARGS = 4;

  private static final int LEAST_METHODS = 2, MOST_METHODS = 16;
  private static final int LEAST_NODES = 4, MOST_NODES = 32;
  private static final int NO_METHOD = -1, NO_TYPE = 0;
  private static final int LITERAL = -1;
  private static final int BOX_DISTANCE = 6;
  private static final int TYPE_BITS = 4, TYPE_MASK = 15;

  private final int methodCapacity;
  private final int nodeCapacity;

  private int methods;
  private final int[] methodName = new int[MOST_METHODS];
  private final int[] methodParams = new int[MOST_METHODS];
  private final int[] methodPlaces = new int[MOST_METHODS];
  private final int[] methodReturn = new int[MOST_METHODS];
  private final int[] methodConstant = new int[MOST_METHODS];
  private final boolean[] methodVarargs = new boolean[MOST_METHODS];

  private int pickedPhase;

  private int nodes;
  private int missingNodes;
  private boolean resolved;
  private final int[] callName = new int[MOST_NODES];
  private final int[] callArgc = new int[MOST_NODES];
  private final int[] literalType = new int[MOST_NODES];
  private final long[] literalValue = new long[MOST_NODES];

  private final int[] subtreeEnd = new int[MOST_NODES];
  private final int[] resultStatus = new int[MOST_NODES];
  private final int[] resultMethod = new int[MOST_NODES];
  private final int[] resultType = new int[MOST_NODES];
  private final int[] resultPhase = new int[MOST_NODES];
  private final long[] resultValue = new long[MOST_NODES];

  public OverloadPicker(int maxMethods, int maxNodes) {
    methodCapacity = clamp(maxMethods, LEAST_METHODS, MOST_METHODS);
    nodeCapacity = clamp(maxNodes, LEAST_NODES, MOST_NODES);
    methods = 0;
    pickedPhase = PHASE_NONE;
    emptyProgram();
  }

  public int addMethod(int name, int params, int retFlags, int constant) {
    if (methods == methodCapacity || !isName(name) || !isTypeList(params)) {
      return REFUSED;
    }
    int returnType = retFlags & TYPE_MASK;
    if (!isType(returnType) || (retFlags & ~(TYPE_MASK | VARARGS_FLAG)) != 0) {
      return REFUSED;
    }
    boolean varargs = (retFlags & VARARGS_FLAG) != 0;
    if ((varargs && params == 0) || isDeclared(name, params, varargs)) {
      return REFUSED;
    }
    int id = methods;
    methodName[id] = name;
    methodParams[id] = params;
    methodPlaces[id] = repeatLast(params);
    methodReturn[id] = returnType;
    methodConstant[id] = constant;
    methodVarargs[id] = varargs;
    methods = id + 1;
    resolved = false;
    return id;
  }

  public int methodCount() {
    return methods;
  }

  public boolean convertible(int from, int to, int phase) {
    if (!isType(from) || !isType(to) || phase < PHASE_STRICT || phase > PHASE_VARARGS) {
      return false;
    }
    return isCompatible(from, to, phase);
  }

  public int pick(int name, int args) {
    if (!isName(name) || !isTypeList(args)) {
      return REFUSED;
    }
    pickedPhase = decidingPhase(name, args);
    return chooseMethod(name, args, pickedPhase);
  }

  public int lastPhase() {
    return pickedPhase;
  }

  public int addLiteral(int type, int value) {
    if (!isType(type) || !hasRoomForNode()) {
      return REFUSED;
    }
    literalType[nodes] = type;
    literalValue[nodes] = narrow(type, value);
    return appendNode(LITERAL, 0);
  }

  public int addCall(int name, int argc) {
    if (!isName(name) || argc < 0 || argc > MAX_ARGS || !hasRoomForNode()) {
      return REFUSED;
    }
    return appendNode(name, argc);
  }

  public int pending() {
    return missingNodes;
  }

  public int nodeCount() {
    return nodes;
  }

  public void clearProgram() {
    emptyProgram();
  }

  public int resolve() {
    if (!isComplete()) {
      return REFUSED;
    }
    // In prefix order every argument stands behind its call, so going backwards is bottom-up.
    for (int i = nodes - 1; i >= 0; i--) {
      if (callName[i] == LITERAL) {
        subtreeEnd[i] = i + 1;
        setResult(i, OK, NO_METHOD, literalType[i], PHASE_NONE, literalValue[i]);
      } else {
        resolveCall(i);
      }
    }
    resolved = true;
    return resultStatus[0];
  }

  public int nodeStatus(int i) {
    if (!isNode(i)) {
      return REFUSED;
    }
    return resolved ? resultStatus[i] : UNRESOLVED;
  }

  public int nodeMethod(int i) {
    return hasResult(i) ? resultMethod[i] : NO_METHOD;
  }

  public int nodeType(int i) {
    return hasResult(i) ? resultType[i] : NO_TYPE;
  }

  public int nodePhase(int i) {
    return hasResult(i) ? resultPhase[i] : PHASE_NONE;
  }

  public long nodeValue(int i) {
    return hasResult(i) ? resultValue[i] : 0L;
  }

  private static int clamp(int value, int least, int most) {
    if (value < least) {
      return least;
    }
    return value > most ? most : value;
  }

  private static boolean isName(int name) {
    return name >= 0 && name < NAMES;
  }

  private static boolean isType(int type) {
    return type >= T_BYTE && type <= T_OBJECT;
  }

  private static boolean isTypeList(int list) {
    int length = listLength(list);
    for (int i = 0; i < length; i++) {
      int type = typeAt(list, i);
      if (!isType(type)) {
        return false;
      }
    }
    // The signed shift leaves a negative list negative, so this turns it away too.
    return list >> (TYPE_BITS * length) == 0;
  }

  private static int listLength(int list) {
    int length = 0;
    while (length < MAX_ARGS && typeAt(list, length) != 0) {
      length++;
    }
    return length;
  }

  private static int typeAt(int list, int index) {
    return (list >> (TYPE_BITS * index)) & TYPE_MASK;
  }

  // A variable part serves every place from its own to the one behind the longest call's last.
  private static int repeatLast(int list) {
    int length = listLength(list);
    int repeated = list;
    for (int i = length; i > 0 && i <= MAX_ARGS; i++) {
      int last = typeAt(list, length - 1);
      repeated |= last << (TYPE_BITS * i);
    }
    return repeated;
  }

  private static boolean isSubtype(int type, int of) {
    if (type == of) {
      return true;
    }
    switch (of) {
      case T_SHORT:
        return type == T_BYTE;
      case T_INT:
        return type < T_INT;
      case T_LONG:
        return type < T_LONG;
      case T_NUMBER:
        return type == T_BYTE_OBJ || type == T_SHORT_OBJ || type == T_INTEGER || type == T_LONG_OBJ;
      case T_OBJECT:
        return type >= T_BYTE_OBJ;
      default:
        return false;
    }
  }

  private static boolean isCompatible(int argument, int parameter, int phase) {
    if (isSubtype(argument, parameter)) {
      return true;
    }
    if (phase == PHASE_STRICT || argument > T_BOOLEAN_OBJ) {
      return false;
    }
    boolean primitive = argument <= T_BOOLEAN;
    int converted = primitive ? argument + BOX_DISTANCE : argument - BOX_DISTANCE;
    return isSubtype(converted, parameter);
  }

  private static long narrow(int type, long value) {
    switch (type) {
      case T_BYTE:
      case T_BYTE_OBJ:
        return (byte) value;
      case T_SHORT:
      case T_SHORT_OBJ:
        return (short) value;
      case T_CHAR:
      case T_CHARACTER:
        return value & 0xFFFFL;
      case T_INT:
      case T_INTEGER:
        return (int) value;
      case T_BOOLEAN:
      case T_BOOLEAN_OBJ:
        return value & 1L;
      default:
        return value;
    }
  }

  private boolean isDeclared(int name, int params, boolean varargs) {
    for (int m = 0; m < methods; m++) {
      if (methodName[m] == name && methodParams[m] == params && methodVarargs[m] == varargs) {
        return true;
      }
    }
    return false;
  }

  private int decidingPhase(int name, int types) {
    for (int phase = PHASE_STRICT; phase <= PHASE_VARARGS; phase++) {
      for (int m = 0; m < methods; m++) {
        if (methodName[m] == name && isApplicable(m, types, phase)) {
          return phase;
        }
      }
    }
    return PHASE_NONE;
  }

  private int chooseMethod(int name, int types, int phase) {
    if (phase == PHASE_NONE) {
      return NO_MATCH;
    }
    int applicable = 0;
    for (int m = 0; m < methods; m++) {
      if (methodName[m] == name && isApplicable(m, types, phase)) {
        applicable |= 1 << m;
      }
    }
    int length = listLength(types);
    // One place more than there are arguments: it sets apart variable parts that got no argument.
    int places = phase == PHASE_VARARGS ? length + 1 : length;
    for (int m = 0; m < methods; m++) {
      if ((applicable & (1 << m)) != 0 && beatsOthers(m, applicable, places)) {
        return m;
      }
    }
    return AMBIGUOUS;
  }

  private boolean isApplicable(int method, int types, int phase) {
    int given = listLength(types);
    int declared = listLength(methodParams[method]);
    boolean varargs = methodVarargs[method];
    if (varargs != (phase == PHASE_VARARGS)) {
      return false;
    }
    if (varargs ? given < declared - 1 : given != declared) {
      return false;
    }
    for (int i = 0; i < given; i++) {
      int argument = typeAt(types, i);
      int parameter = typeAt(methodPlaces[method], i);
      if (!isCompatible(argument, parameter, phase)) {
        return false;
      }
    }
    return true;
  }

  private boolean beatsOthers(int method, int applicable, int places) {
    for (int other = 0; other < methods; other++) {
      if (other != method && (applicable & (1 << other)) != 0) {
        if (!isAsSpecific(method, other, places) || isAsSpecific(other, method, places)) {
          return false;
        }
      }
    }
    return true;
  }

  private boolean isAsSpecific(int method, int other, int places) {
    for (int i = 0; i < places; i++) {
      int own = typeAt(methodPlaces[method], i);
      int theirs = typeAt(methodPlaces[other], i);
      if (!isSubtype(own, theirs)) {
        return false;
      }
    }
    return true;
  }

  private void emptyProgram() {
    nodes = 0;
    missingNodes = 1;
    resolved = false;
  }

  private boolean isComplete() {
    return nodes > 0 && missingNodes == 0;
  }

  private boolean hasRoomForNode() {
    return nodes < nodeCapacity && !isComplete();
  }

  private int appendNode(int name, int argc) {
    int node = nodes;
    callName[node] = name;
    callArgc[node] = argc;
    nodes = node + 1;
    missingNodes = missingNodes - 1 + argc;
    resolved = false;
    return node;
  }

  private void resolveCall(int call) {
    int types = 0;
    long sum = 0L;
    boolean failed = false;
    int argument = call + 1;
    // A complete program holds every argument; the second bound only keeps the index in sight.
    for (int k = 0; k < callArgc[call] && argument < nodes; k++) {
      types |= resultType[argument] << (TYPE_BITS * k);
      sum += resultValue[argument];
      failed = failed || resultStatus[argument] != OK;
      argument = subtreeEnd[argument];
    }
    subtreeEnd[call] = argument;
    if (failed) {
      setResult(call, ARG_ERROR, NO_METHOD, NO_TYPE, PHASE_NONE, 0L);
      return;
    }
    int phase = decidingPhase(callName[call], types);
    int method = chooseMethod(callName[call], types, phase);
    if (method < 0) {
      setResult(call, method, NO_METHOD, NO_TYPE, phase, 0L);
      return;
    }
    int returnType = methodReturn[method];
    long value = narrow(returnType, methodConstant[method] + sum);
    setResult(call, OK, method, returnType, phase, value);
  }

  private void setResult(int node, int status, int method, int type, int phase, long value) {
    resultStatus[node] = status;
    resultMethod[node] = method;
    resultType[node] = type;
    resultPhase[node] = phase;
    resultValue[node] = value;
  }

  private boolean isNode(int i) {
    return i >= 0 && i < nodes;
  }

  private boolean hasResult(int i) {
    return resolved && isNode(i);
  }
}
