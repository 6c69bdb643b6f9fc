import java.util.ArrayList;
import java.util.List;

/**
 * The document's words once more, as plainly as they can be put and with no thought of speed:
 * bits are asked for backwards, from a node to its sources, one run at a time; sheets are real
 * arrays, and the findings are what the machine itself throws.
 */
final class SlowModel {
  private static final int NONE = -1, BAD = -2, NOT = -3, FULL = -4;
  private static final int TICKS = 17;

  private static final class Part {
    int kind, a, b, price = 1, number = NONE;
    boolean output, thrice, voted;
  }

  private record Flip(int tick, int node, int c) {
  }

  private final List<Part> parts = new ArrayList<>();
  private final Object[] rows = new Object[4];
  private int latest = 0, span = 8, voterPrice = 1;

  private final int[][][] memo = new int[TICKS][24][3];
  private final int[][] plainMemo = new int[TICKS][24];
  private List<Flip> flips = List.of();

  // ---- the net

  private boolean isPart(int node) {
    return 0 <= node && node < parts.size();
  }

  private boolean isStore(int node) {
    return isPart(node) && parts.get(node).kind == 5;
  }

  private List<Integer> nodesOf(int kind) {
    List<Integer> all = new ArrayList<>();
    for (int node = 0; node < parts.size(); node++) {
      if (parts.get(node).kind == kind) {
        all.add(node);
      }
    }
    return all;
  }

  int node(int kind, int a, int b) {
    boolean good = switch (kind) {
      case 0, 5 -> a == NONE && b == NONE;
      case 1 -> isPart(a) && b == NONE;
      case 2, 3, 4 -> isPart(a) && isPart(b);
      default -> false;
    };
    if (!good) {
      return BAD;
    }
    if (parts.size() == 24) {
      return FULL;
    }
    Part part = new Part();
    part.kind = kind;
    part.a = kind == 5 ? parts.size() : a;
    part.b = b;
    if (kind == 0 || kind == 5) {
      part.number = nodesOf(kind).size();
    }
    parts.add(part);
    return parts.size() - 1;
  }

  int feed(int store, int source) {
    if (!isStore(store) || !isPart(source)) {
      return BAD;
    }
    int was = parts.get(store).a;
    parts.get(store).a = source;
    return was;
  }

  int output(int node, boolean is) {
    if (!isPart(node)) {
      return BAD;
    }
    parts.get(node).output = is;
    return 1;
  }

  int price(int node, int p) {
    if (!isPart(node) || p < 0 || p > 1000) {
      return BAD;
    }
    int was = parts.get(node).price;
    parts.get(node).price = p;
    return was;
  }

  int about(int node, int what) {
    if (!isPart(node)) {
      return BAD;
    }
    Part part = parts.get(node);
    return switch (what) {
      case 0 -> part.kind;
      case 1 -> part.a;
      case 2 -> part.b;
      case 3 -> part.output ? 1 : 0;
      case 4 -> part.thrice ? 1 : 0;
      case 5 -> part.voted ? 1 : 0;
      case 6 -> part.price;
      case 7 -> part.number;
      default -> BAD;
    };
  }

  int thrice(int node, boolean is) {
    if (!isPart(node)) {
      return BAD;
    }
    Part part = parts.get(node);
    if (part.thrice == is) {
      return 0;
    }
    part.thrice = is;
    if (!is) {
      part.voted = false;
    }
    return 1;
  }

  int vote(int store, boolean is) {
    if (!isStore(store)) {
      return BAD;
    }
    Part part = parts.get(store);
    if (!part.thrice) {
      return NOT;
    }
    if (part.voted == is) {
      return 0;
    }
    part.voted = is;
    return 1;
  }

  // ---- runs

  private int inputBit(int number, int tick) {
    Object row = rows[0];
    int item = 0;
    if (row instanceof byte[] bytes && tick < bytes.length) {
      item = bytes[tick];
    } else if (row instanceof short[] shorts && tick < shorts.length) {
      item = shorts[tick];
    } else if (row instanceof int[] ints && tick < ints.length) {
      item = ints[tick];
    }
    return (item & (1 << number)) != 0 ? 1 : 0;
  }

  private static int gate(int kind, int x, int y) {
    return switch (kind) {
      case 1 -> 1 - x;
      case 2 -> x == 1 && y == 1 ? 1 : 0;
      case 3 -> x == 1 || y == 1 ? 1 : 0;
      default -> x != y ? 1 : 0;
    };
  }

  private static int majority(int x, int y, int z) {
    return x + y + z >= 2 ? 1 : 0;
  }

  private int plainBit(int node, int tick) {
    if (plainMemo[tick][node] == NONE) {
      Part part = parts.get(node);
      plainMemo[tick][node] = switch (part.kind) {
        case 0 -> inputBit(part.number, tick);
        case 5 -> tick == 0 ? 0 : plainBit(part.a, tick - 1);
        case 1 -> gate(1, plainBit(part.a, tick), 0);
        default -> gate(part.kind, plainBit(part.a, tick), plainBit(part.b, tick));
      };
    }
    return plainMemo[tick][node];
  }

  private int copyBit(int node, int c, int tick) {
    if (memo[tick][node][c] == NONE) {
      Part part = parts.get(node);
      int bit = switch (part.kind) {
        case 0 -> inputBit(part.number, tick);
        case 5 -> tick == 0 ? 0 : storeTakes(part, c, tick - 1);
        case 1 -> gate(1, takes(part, part.a, c, tick), 0);
        default -> gate(part.kind, takes(part, part.a, c, tick), takes(part, part.b, c, tick));
      };
      memo[tick][node][c] = flips.contains(new Flip(tick, node, c)) ? 1 - bit : bit;
    }
    return memo[tick][node][c];
  }

  private int told(int node, int tick) {
    if (!parts.get(node).thrice) {
      return copyBit(node, 0, tick);
    }
    return majority(copyBit(node, 0, tick), copyBit(node, 1, tick), copyBit(node, 2, tick));
  }

  private int takes(Part part, int source, int c, int tick) {
    if (part.thrice && parts.get(source).thrice) {
      return copyBit(source, c, tick);
    }
    return told(source, tick);
  }

  private int storeTakes(Part part, int c, int tick) {
    if (!part.voted) {
      return takes(part, part.a, c, tick);
    }
    return majority(takes(part, part.a, 0, tick), takes(part, part.a, 1, tick), takes(part, part.a, 2, tick));
  }

  private void forgetPlain() {
    for (int[] row : plainMemo) {
      java.util.Arrays.fill(row, NONE);
    }
  }

  private void forget(List<Flip> newFlips) {
    flips = newFlips;
    for (int[][] rowsOfTick : memo) {
      for (int[] row : rowsOfTick) {
        java.util.Arrays.fill(row, NONE);
      }
    }
  }

  private int copies(int node) {
    return parts.get(node).thrice ? 3 : 1;
  }

  private int run(List<Flip> with) {
    forget(with);
    boolean seen = false;
    boolean lingers = false;
    for (int node = 0; node < parts.size(); node++) {
      Part part = parts.get(node);
      for (int tick = 0; part.output && tick < span; tick++) {
        seen |= told(node, tick) != plainBit(node, tick);
      }
      for (int c = 0; part.kind == 5 && c < copies(node); c++) {
        lingers |= storeTakes(part, c, span - 1) != plainBit(part.a, span - 1);
      }
    }
    return (seen ? 1 : 0) + (lingers ? 2 : 0);
  }

  private List<Flip> flipsOfTick(int tick) {
    List<Flip> all = new ArrayList<>();
    for (int node = 0; node < parts.size(); node++) {
      for (int c = 0; c < copies(node); c++) {
        all.add(new Flip(tick, node, c));
      }
    }
    return all;
  }

  private boolean isFlip(int tick, int node, int c) {
    return tick >= 0 && tick < span && isPart(node) && c >= 0 && c < copies(node);
  }

  int ticks(int t) {
    if (t < 1 || t > 16) {
      return BAD;
    }
    int was = span;
    span = t;
    return was;
  }

  int plain(int node, int tick) {
    if (!isPart(node) || tick < 0 || tick > 15) {
      return BAD;
    }
    forgetPlain();
    return plainBit(node, tick);
  }

  int copy(int node, int c, int tick) {
    if (!isPart(node) || c < 0 || c >= copies(node) || tick < 0 || tick > 15) {
      return BAD;
    }
    forget(List.of());
    return copyBit(node, c, tick);
  }

  int flip(int tick, int node, int c) {
    if (!isFlip(tick, node, c)) {
      return BAD;
    }
    forgetPlain();
    return run(List.of(new Flip(tick, node, c)));
  }

  int flips(int tick, int node, int c, int otherTick, int otherNode, int otherC) {
    if (!isFlip(tick, node, c) || !isFlip(otherTick, otherNode, otherC)) {
      return BAD;
    }
    Flip one = new Flip(tick, node, c);
    Flip other = new Flip(otherTick, otherNode, otherC);
    if (one.equals(other)) {
      return BAD;
    }
    forgetPlain();
    return run(List.of(one, other));
  }

  int many(int what) {
    if (what < 0 || what > 3) {
      return BAD;
    }
    forgetPlain();
    int sum = 0;
    for (int tick = 0; tick < span; tick++) {
      for (Flip one : flipsOfTick(tick)) {
        if (run(List.of(one)) == what) {
          sum++;
        }
      }
    }
    return sum;
  }

  int first() {
    forgetPlain();
    for (int tick = 0; tick < span; tick++) {
      for (Flip one : flipsOfTick(tick)) {
        if (run(List.of(one)) % 2 == 1) {
          return 10000 * one.tick + 10 * one.node + one.c;
        }
      }
    }
    return NONE;
  }

  int masked(int node) {
    if (!isPart(node)) {
      return BAD;
    }
    forgetPlain();
    for (int tick = 0; tick < span; tick++) {
      for (Flip one : flipsOfTick(tick)) {
        if (one.node == node && run(List.of(one)) % 2 == 1) {
          return 0;
        }
      }
    }
    return 1;
  }

  int pairs(int tick) {
    if (tick < 0 || tick >= span) {
      return BAD;
    }
    forgetPlain();
    List<Flip> all = flipsOfTick(tick);
    int sum = 0;
    for (int i = 0; i < all.size(); i++) {
      for (int j = 0; j < i; j++) {
        sum += run(List.of(all.get(i), all.get(j))) % 2;
      }
    }
    return sum;
  }

  // ---- voters, costs

  private boolean comesTo(int fromStoreNode, int node) {
    if (node == fromStoreNode) {
      return true;
    }
    Part part = parts.get(node);
    if (part.kind == 0 || part.kind == 5) {
      return false;
    }
    return comesTo(fromStoreNode, part.a) || part.b != NONE && comesTo(fromStoreNode, part.b);
  }

  private boolean[][] leadsAll() {
    List<Integer> stores = nodesOf(5);
    boolean[][] all = new boolean[stores.size()][stores.size()];
    for (int s = 0; s < stores.size(); s++) {
      for (int t = 0; t < stores.size(); t++) {
        all[s][t] = comesTo(stores.get(s), parts.get(stores.get(t)).a);
      }
    }
    return all;
  }

  private static boolean breaksAll(boolean[][] leads, int set) {
    int n = leads.length;
    boolean[][] way = new boolean[n][n];
    for (int s = 0; s < n; s++) {
      for (int t = 0; t < n; t++) {
        way[s][t] = leads[s][t] && (set >> s & 1) == 0 && (set >> t & 1) == 0;
      }
    }
    for (int over = 0; over < n; over++) {
      for (int s = 0; s < n; s++) {
        for (int t = 0; t < n; t++) {
          way[s][t] |= way[s][over] && way[over][t];
        }
      }
    }
    for (int s = 0; s < n; s++) {
      if (way[s][s]) {
        return false;
      }
    }
    return true;
  }

  int leads(int store, int other) {
    int n = nodesOf(5).size();
    if (store < 0 || store >= n || other < 0 || other >= n) {
      return BAD;
    }
    return leadsAll()[store][other] ? 1 : 0;
  }

  int breaks(int bits) {
    int n = nodesOf(5).size();
    for (int k = 0; k < 32; k++) {
      if ((bits & (1 << k)) != 0 && k >= n) {
        return BAD;
      }
    }
    return n > 12 ? NOT : breaksAll(leadsAll(), bits) ? 1 : 0;
  }

  int best() {
    List<Integer> stores = nodesOf(5);
    if (stores.size() > 12) {
      return NOT;
    }
    boolean[][] leads = leadsAll();
    long bestRank = Long.MAX_VALUE;
    for (int set = 0; set < 1 << stores.size(); set++) {
      long price = 0;
      for (int s = 0; s < stores.size(); s++) {
        price += (set >> s & 1) == 1 ? parts.get(stores.get(s)).price : 0;
      }
      long rank = (price * 100 + Integer.bitCount(set)) * 10000 + set;
      if (rank < bestRank && breaksAll(leads, set)) {
        bestRank = rank;
      }
    }
    return (int) (bestRank % 10000);
  }

  int harden() {
    int set = best();
    if (set == NOT) {
      return NOT;
    }
    for (Part part : parts) {
      part.thrice = true;
      part.voted = part.kind == 5 && (set >> part.number & 1) == 1;
    }
    return count(5);
  }

  int voter(int p) {
    if (p < 0 || p > 1000) {
      return BAD;
    }
    int was = voterPrice;
    voterPrice = p;
    return was;
  }

  int cost() {
    int sum = 0;
    for (Part part : parts) {
      sum += part.thrice ? part.price + part.price + part.price : part.price;
      sum += part.voted ? voterPrice + voterPrice + voterPrice : 0;
    }
    return sum;
  }

  private int gatesTo(int node) {
    Part part = parts.get(node);
    if (part.kind == 0 || part.kind == 5) {
      return 0;
    }
    return 1 + Math.max(gatesTo(part.a), part.b == NONE ? 0 : gatesTo(part.b));
  }

  int slow() {
    int most = 0;
    for (int node = 0; node < parts.size(); node++) {
      Part part = parts.get(node);
      if (part.output) {
        most = Math.max(most, gatesTo(node));
      }
      if (part.kind == 5) {
        most = Math.max(most, gatesTo(part.a) + (part.voted ? 1 : 0));
      }
    }
    return most;
  }

  // ---- sheets

  private static boolean isSheet(int s) {
    return s >= 0 && s < 4;
  }

  private static boolean isForm(int form) {
    return form >= 0 && form < 3;
  }

  private int finding(RuntimeException thrown) {
    if (thrown instanceof NullPointerException) {
      latest = 1;
    } else if (thrown instanceof IndexOutOfBoundsException) {
      latest = 2;
    } else if (thrown instanceof ClassCastException) {
      latest = 3;
    } else if (thrown instanceof ArrayStoreException) {
      latest = 4;
    } else if (thrown instanceof NegativeArraySizeException) {
      latest = 5;
    } else {
      throw thrown;
    }
    return -10 - latest;
  }

  private static int length(Object row) {
    return java.lang.reflect.Array.getLength(row);
  }

  int sheet(int s, int form, int n) {
    if (!isSheet(s) || !isForm(form) || n > 60) {
      return BAD;
    }
    try {
      rows[s] = form == 0 ? new byte[n] : form == 1 ? new short[n] : new int[n];
      return n;
    } catch (NegativeArraySizeException thrown) {
      return finding(thrown);
    }
  }

  int lose(int s) {
    if (!isSheet(s)) {
      return BAD;
    }
    try {
      int had = length(rows[s]);
      rows[s] = null;
      return had;
    } catch (NullPointerException thrown) {
      return finding(thrown);
    }
  }

  int put(int s, int form, int i, int v) {
    if (!isSheet(s) || !isForm(form)) {
      return BAD;
    }
    try {
      if (form == 0) {
        ((byte[]) rows[s])[i] = (byte) v;
      } else if (form == 1) {
        ((short[]) rows[s])[i] = (short) v;
      } else {
        ((int[]) rows[s])[i] = v;
      }
      return 1;
    } catch (RuntimeException thrown) {
      return finding(thrown);
    }
  }

  int get(int s, int form, int i) {
    if (!isSheet(s) || !isForm(form)) {
      return Integer.MIN_VALUE;
    }
    try {
      if (form == 0) {
        return ((byte[]) rows[s])[i];
      }
      return form == 1 ? ((short[]) rows[s])[i] : ((int[]) rows[s])[i];
    } catch (RuntimeException thrown) {
      finding(thrown);
      return Integer.MIN_VALUE;
    }
  }

  @SuppressWarnings("SuspiciousSystemArraycopy")
  int move(int s, int i, int t, int j, int n) {
    if (!isSheet(s) || !isSheet(t)) {
      return BAD;
    }
    try {
      System.arraycopy(rows[s], i, rows[t], j, n);
      return 1;
    } catch (RuntimeException thrown) {
      return finding(thrown);
    }
  }

  int count(int what) {
    int outputs = 0;
    int thrices = 0;
    int voteds = 0;
    for (Part part : parts) {
      outputs += part.output ? 1 : 0;
      thrices += part.thrice ? 1 : 0;
      voteds += part.voted ? 1 : 0;
    }
    return switch (what) {
      case 0 -> parts.size();
      case 1 -> nodesOf(0).size();
      case 2 -> nodesOf(5).size();
      case 3 -> outputs;
      case 4 -> thrices;
      case 5 -> voteds;
      case 6 -> latest;
      case 7 -> span;
      case 8 -> voterPrice;
      default -> BAD;
    };
  }

  long digest() {
    List<Integer> all = new ArrayList<>();
    for (int what : new int[] {0, 1, 2, 3, 4, 5, 7, 8}) {
      all.add(count(what));
    }
    for (int node = 0; node < parts.size(); node++) {
      for (int what = 1; what <= 6; what++) {
        all.add(about(node, what));
      }
    }
    for (int node = 0; node < parts.size(); node++) {
      for (int tick = 0; parts.get(node).output && tick < span; tick++) {
        all.add(plain(node, tick));
      }
    }
    all.add(cost());
    long h = 17;
    for (int x : all) {
      h = 31 * h + x;
    }
    return h;
  }
}
