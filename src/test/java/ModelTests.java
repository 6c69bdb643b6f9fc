import java.util.Random;

/** Runs of calls drawn by a fixed seed, on the class and on SlowModel: their answers are alike. */
public final class ModelTests {
  private static final int OBJECTS = 480, CALLS = 512;
  private static final int[] WRONG_IN_HUNDRED = {0, 5, 10, 40};

  private final Random random;
  private final ThriceNets x = new ThriceNets();
  private final SlowModel y = new SlowModel();
  private final String where;
  private final int mostNodes;
  private final int wrongInHundred;
  private int dearLeft = 6;

  private ModelTests(int seed) {
    random = new Random(seed);
    where = "object " + seed + ": ";
    mostNodes = 1 + random.nextInt(26);
    wrongInHundred = WRONG_IN_HUNDRED[seed % WRONG_IN_HUNDRED.length];
  }

  public static void main(String[] args) {
    for (int seed = 0; seed < OBJECTS; seed++) {
      new ModelTests(seed).run();
    }
    Due.end("ModelTests");
  }

  private void run() {
    for (int call = 0; call < CALLS - 1; call++) {
      boolean growing = x.count(0) < mostNodes && random.nextInt(4) != 0;
      call(growing ? random.nextInt(3) : random.nextInt(31));
    }
    Due.due(where + "digest()", x.digest(), y.digest());
  }

  /** Mostly 0 .. bound - 1; now and then a number just outside, or a far one. */
  private int upTo(int bound) {
    if (bound < 1 || random.nextInt(100) < wrongInHundred) {
      int[] odd = {-1, bound, bound + 1, -2, Integer.MAX_VALUE, Integer.MIN_VALUE};
      return odd[random.nextInt(odd.length)];
    }
    return random.nextInt(bound);
  }

  private int anyNode() {
    return upTo(x.count(0));
  }

  private int anyStore() {
    for (int k = 0; k < 20; k++) {
      int node = anyNode();
      if (x.about(node, 0) == 5) {
        return node;
      }
    }
    return anyNode();
  }

  private int anyCopy(int node) {
    return upTo(x.about(node, 4) == 1 ? 3 : 1);
  }

  private int anyPrice() {
    return random.nextBoolean() ? upTo(4) : upTo(1001);
  }

  private void same(String call, long got, long want) {
    Due.due(where + call, got, want);
  }

  private void call(int which) {
    if (which < 7) {
      callNet(which);
    } else if (which < 16) {
      callRuns(which);
    } else if (which < 23) {
      callVoters(which);
    } else {
      callSheets(which);
    }
  }

  private void growNode() {
    int kind = upTo(6);
    int a = kind == 0 || kind == 5 ? -1 : anyNode();
    int b = kind < 2 || kind == 5 ? -1 : anyNode();
    if (random.nextInt(100) < wrongInHundred) {
      a = upTo(3);
      b = upTo(3);
    }
    if (x.count(0) >= mostNodes && mostNodes <= 24) {
      return;
    }
    same("node(" + kind + ", " + a + ", " + b + ")", x.node(kind, a, b), y.node(kind, a, b));
  }

  private void callNet(int which) {
    int node = anyNode();
    boolean is = random.nextInt(3) != 0;
    switch (which) {
      case 0 -> growNode();
      case 1 -> {
        int store = anyStore();
        same("feed(" + store + ", " + node + ")", x.feed(store, node), y.feed(store, node));
      }
      case 2 -> same("output(" + node + ", " + is + ")", x.output(node, is), y.output(node, is));
      case 3 -> {
        int p = anyPrice();
        same("price(" + node + ", " + p + ")", x.price(node, p), y.price(node, p));
      }
      case 4 -> {
        int what = upTo(8);
        same("about(" + node + ", " + what + ")", x.about(node, what), y.about(node, what));
      }
      case 5 -> same("thrice(" + node + ", " + is + ")", x.thrice(node, is), y.thrice(node, is));
      default -> {
        int store = anyStore();
        same("vote(" + store + ", " + is + ")", x.vote(store, is), y.vote(store, is));
      }
    }
  }

  private void callRuns(int which) {
    int node = anyNode();
    int c = anyCopy(node);
    int tick = upTo(x.count(7));
    switch (which) {
      case 7 -> {
        int t = 1 + upTo(16);
        same("ticks(" + t + ")", x.ticks(t), y.ticks(t));
      }
      case 8 -> {
        int any = upTo(16);
        same("plain(" + node + ", " + any + ")", x.plain(node, any), y.plain(node, any));
      }
      case 9 -> {
        int any = upTo(16);
        same("copy(" + node + ", " + c + ", " + any + ")", x.copy(node, c, any), y.copy(node, c, any));
      }
      case 10 -> same("flip(" + tick + ", " + node + ", " + c + ")", x.flip(tick, node, c), y.flip(tick, node, c));
      case 11 -> {
        int otherTick = random.nextInt(3) == 0 ? tick : upTo(x.count(7));
        int other = random.nextInt(3) == 0 ? node : anyNode();
        int otherC = anyCopy(other);
        same("flips(" + tick + ", " + node + ", " + c + ", " + otherTick + ", " + other + ", " + otherC + ")",
            x.flips(tick, node, c, otherTick, other, otherC), y.flips(tick, node, c, otherTick, other, otherC));
      }
      case 14 -> same("masked(" + node + ")", x.masked(node), y.masked(node));
      default -> callDear(which, tick);
    }
  }

  private void callDear(int which, int tick) {
    if (x.count(0) > 6 && dearLeft-- <= 0) {
      return;
    }
    switch (which) {
      case 12 -> {
        int what = upTo(4);
        same("many(" + what + ")", x.many(what), y.many(what));
      }
      case 13 -> same("first()", x.first(), y.first());
      default -> same("pairs(" + tick + ")", x.pairs(tick), y.pairs(tick));
    }
  }

  private void callVoters(int which) {
    int stores = x.count(2);
    switch (which) {
      case 16 -> {
        int store = upTo(stores);
        int other = upTo(stores);
        same("leads(" + store + ", " + other + ")", x.leads(store, other), y.leads(store, other));
      }
      case 17 -> {
        int bits = upTo(1 << stores);
        same("breaks(" + bits + ")", x.breaks(bits), y.breaks(bits));
      }
      case 18 -> {
        if (stores < 9 || dearLeft-- > 0) {
          same("best()", x.best(), y.best());
        }
      }
      case 19 -> {
        if (random.nextInt(4) == 0 && (stores < 9 || dearLeft-- > 0)) {
          same("harden()", x.harden(), y.harden());
        }
      }
      case 20 -> {
        int p = anyPrice();
        same("voter(" + p + ")", x.voter(p), y.voter(p));
      }
      case 21 -> same("cost()", x.cost(), y.cost());
      default -> same("slow()", x.slow(), y.slow());
    }
  }

  private void callSheets(int which) {
    int s = random.nextBoolean() ? 0 : upTo(4);
    int form = random.nextBoolean() ? 0 : upTo(3);
    int i = random.nextBoolean() ? upTo(16) : upTo(60);
    switch (which) {
      case 23 -> same("sheet(" + s + ", " + form + ", " + i + ")", x.sheet(s, form, i), y.sheet(s, form, i));
      case 24 -> {
        if (random.nextInt(5) == 0) {
          same("lose(" + s + ")", x.lose(s), y.lose(s));
        }
      }
      case 25, 26 -> {
        int v = random.nextInt();
        same("put(" + s + ", " + form + ", " + i + ", " + v + ")", x.put(s, form, i, v), y.put(s, form, i, v));
      }
      case 27 -> same("get(" + s + ", " + form + ", " + i + ")", x.get(s, form, i), y.get(s, form, i));
      case 28 -> {
        int t = upTo(4);
        int j = upTo(20);
        int n = upTo(10);
        same("move(" + s + ", " + i + ", " + t + ", " + j + ", " + n + ")",
            x.move(s, i, t, j, n), y.move(s, i, t, j, n));
      }
      case 29 -> {
        int what = upTo(9);
        same("count(" + what + ")", x.count(what), y.count(what));
      }
      default -> same("digest()", x.digest(), y.digest());
    }
  }
}
