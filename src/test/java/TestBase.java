/** What the tests share: names for the document's numbers, and nets to begin with. */
abstract class TestBase {
  static final int NONE = -1, BAD = -2, NOT = -3, FULL = -4;
  static final int NULL = -11, INDEX = -12, CAST = -13, UNLIKE = -14, SIZE = -15;
  static final int INPUT = 0, INVERTER = 1, AND = 2, OR = 3, XOR = 4, STORE = 5;
  static final int BYTES = 0, SHORTS = 1, INTS = 2;
  static final int LEAST = Integer.MIN_VALUE, MOST = Integer.MAX_VALUE;
  static final int[] FAR = {LEAST, -1000, -5, 1000000, MOST};

  static void due(String call, long got, long want) {
    Due.due(call, got, want);
  }

  static int input(ThriceNets x) {
    return x.node(INPUT, NONE, NONE);
  }

  static int store(ThriceNets x) {
    return x.node(STORE, NONE, NONE);
  }

  /** A NODE of any KIND, with NODE 0 for each SOURCE that it needs. */
  static int anyOf(ThriceNets x, int kind) {
    int a = kind == INPUT || kind == STORE ? NONE : 0;
    int b = kind == AND || kind == OR || kind == XOR ? 0 : NONE;
    return x.node(kind, a, b);
  }

  static ThriceNets withStores(int n) {
    ThriceNets x = new ThriceNets();
    for (int s = 0; s < n; s++) {
      store(x);
    }
    return x;
  }

  static ThriceNets withInputs(int n) {
    ThriceNets x = new ThriceNets();
    for (int k = 0; k < n; k++) {
      input(x);
    }
    return x;
  }

  /** INPUT 0, NOT, AND, OR, XOR, STORE: the number of each NODE is its KIND. */
  static ThriceNets oneOfEachKind() {
    ThriceNets x = new ThriceNets();
    for (int kind = INPUT; kind <= STORE; kind++) {
      anyOf(x, kind);
    }
    return x;
  }

  /** SHEET 0 as ints, the item of each TICK. */
  static void inputs(ThriceNets x, int... items) {
    due("sheet", x.sheet(0, INTS, items.length), items.length);
    for (int i = 0; i < items.length; i++) {
      due("put", x.put(0, INTS, i, items[i]), 1);
    }
  }

  static void allThrice(ThriceNets x) {
    for (int node = 0; node < x.count(0); node++) {
      x.thrice(node, true);
    }
  }

  static void dueItems(String what, ThriceNets x, int s, int form, int... items) {
    for (int i = 0; i < items.length; i++) {
      due(what + ", item " + i, x.get(s, form, i), items[i]);
    }
  }
}
