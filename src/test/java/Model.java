import java.util.ArrayList;
import java.util.Arrays;
import java.util.HashMap;
import java.util.HashSet;
import java.util.List;
import java.util.Map;
import java.util.Set;

/** A slow second writing of the document, from its words alone, for comparison. */
final class Model {
  static final int THROWS = Integer.MIN_VALUE + 77;

  /** step, from, to, block, block there, added. */
  record Send(int step, int from, int to, int block, int there, boolean adds) { }

  private int n;
  private boolean[] live;
  private int[] lateBy;
  private int[][] wait;
  private int[][] per;
  private int[][] heap;
  private List<Send> plan = new ArrayList<>();

  Model() {
    reset(2);
  }

  private void reset(int count) {
    n = count;
    live = new boolean[n];
    Arrays.fill(live, true);
    lateBy = new int[n];
    wait = new int[n][n];
    for (int[] row : wait) {
      Arrays.fill(row, -1);
    }
    per = new int[n][n];
    heap = new int[n][16];
    plan = new ArrayList<>();
  }

  private boolean host(int h) {
    return 0 <= h && h < n;
  }

  private boolean liveHost(int h) {
    return host(h) && live[h];
  }

  private List<Integer> ranks() {
    List<Integer> r = new ArrayList<>();
    for (int h = 0; h < n; h++) {
      if (live[h]) {
        r.add(h);
      }
    }
    return r;
  }

  boolean hosts(int count) {
    if (count < 2 || count > 16) {
      return false;
    }
    reset(count);
    return true;
  }

  private void join(int a, int b, int w, int p) {
    wait[a][b] = w;
    wait[b][a] = w;
    per[a][b] = p;
    per[b][a] = p;
  }

  boolean line(int a, int b, int w, int p) {
    if (!host(a) || !host(b) || a == b) {
      return false;
    }
    if (w != -1 && (w < 0 || w > 1000 || p < 1 || p > 1000)) {
      return false;
    }
    join(a, b, w, p);
    plan.clear();
    return true;
  }

  int net(int form, int w, int p) {
    if (form < 0 || form > 3 || w < 0 || w > 1000 || p < 1 || p > 1000) {
      return -1;
    }
    for (int i = 0; i < n; i++) {
      if (form == 0) {
        join(i, (i + 1) % n, w, p);
      } else if (form == 2 && i + 1 < n) {
        join(i, i + 1, w, p);
      } else if (form == 1) {
        for (int j = 0; j < i; j++) {
          join(i, j, w, p);
        }
      } else if (form == 3) {
        for (int bit = 1; bit < 16; bit *= 2) {
          if ((i ^ bit) < n) {
            join(i, i ^ bit, w, p);
          }
        }
      }
    }
    plan.clear();
    return count(2);
  }

  boolean set(int h, int b, int v) {
    if (!host(h) || b < 0 || b > 15) {
      return false;
    }
    heap[h][b] = v;
    return true;
  }

  int at(int h, int b) {
    return host(h) && b >= 0 && b <= 15 ? heap[h][b] : THROWS;
  }

  boolean live(int h, boolean is) {
    if (!host(h) || !is && ranks().equals(List.of(h))) {
      return false;
    }
    live[h] = is;
    plan.clear();
    return true;
  }

  boolean late(int h, int t) {
    if (!host(h) || t < 0 || t > 100000) {
      return false;
    }
    lateBy[h] = t;
    return true;
  }

  int count(int what) {
    int lines = 0;
    for (int a = 0; a < n; a++) {
      for (int b = 0; b < a; b++) {
        lines += wait[a][b] >= 0 ? 1 : 0;
      }
    }
    Set<String> letters = new HashSet<>();
    for (Send s : plan) {
      letters.add(s.step + " " + s.from + " " + s.to);
    }
    int[] all = {n, ranks().size(), lines, plan.size(), steps(plan), letters.size()};
    return what < 0 || what > 5 ? -1 : all[what];
  }

  private static int steps(List<Send> sends) {
    int most = -1;
    for (Send s : sends) {
      most = Math.max(most, s.step);
    }
    return most + 1;
  }

  private static final int NO_SUCH = -1;
  private static final int NO_WAY = -2;
  private static final int NO_LINE = -3;

  /** Fills sends; the answer is the number of steps or why there is no plan. */
  private int make(int way, int ask, int root, List<Send> sends) {
    if (way < 0 || way > 3 || ask < 0 || ask > 4 || !liveHost(root)) {
      return NO_SUCH;
    }
    List<Integer> r = ranks();
    int m = r.size();
    List<List<int[]>> steps = stepsOf(way, ask, r.indexOf(root), m);
    if (steps == null) {
      return NO_WAY;
    }
    int step = 0;
    for (List<int[]> one : steps) {
      for (int[] s : one) {
        int from = r.get(s[0]);
        int to = r.get(s[1]);
        if (wait[from][to] < 0) {
          return NO_LINE;
        }
        sends.add(new Send(step, from, to, s[2], s[3], s[4] == 1));
      }
      step += one.isEmpty() ? 0 : 1;
    }
    return step;
  }

  private static List<int[]> all(int i, int j, int m, int adds) {
    List<int[]> out = new ArrayList<>();
    for (int b = 0; b < m; b++) {
      out.add(new int[] {i, j, b, b, adds});
    }
    return out;
  }

  /** By ranks: from, to, block, block there, added. Null: there is no such way. */
  private static List<List<int[]>> stepsOf(int way, int ask, int root, int m) {
    List<List<int[]>> out = new ArrayList<>();
    switch (10 * way + ask) {
      case 0:
        for (int t = 0; t <= m - 2; t++) {
          out.add(all((root + t) % m, (root + t + 1) % m, m, 0));
        }
        return out;
      case 1:
        for (int t = 0; t <= m - 2; t++) {
          out.add(all((root + t + 1) % m, (root + t + 2) % m, m, 1));
        }
        return out;
      case 2:
        round(out, m, 0, 1);
        round(out, m, 1, 0);
        return out;
      case 3:
        round(out, m, 0, 0);
        return out;
      case 10:
        return treeSpread(root, m);
      case 11:
        return treeToOne(root, m);
      case 12:
        out.addAll(treeToOne(root, m));
        out.addAll(treeSpread(root, m));
        return out;
      case 22:
      case 23:
        return Integer.bitCount(m) == 1 ? halving(ask, m) : null;
      case 30:
        for (int t = 0; t <= m - 2; t++) {
          out.add(all(root, (root + t + 1) % m, m, 0));
        }
        return out;
      case 31:
        for (int t = 0; t <= m - 2; t++) {
          out.add(all((root + t + 1) % m, root, m, 1));
        }
        return out;
      case 33:
        for (int t = 1; t <= m - 1; t++) {
          List<int[]> step = new ArrayList<>();
          for (int i = 0; i < m; i++) {
            step.add(new int[] {i, (i + t) % m, i, i, 0});
          }
          out.add(step);
        }
        return out;
      case 34:
        for (int t = 0; t <= m - 1; t++) {
          List<int[]> step = new ArrayList<>();
          for (int i = 0; i < m; i++) {
            int j = Math.floorMod(t - i, m);
            if (i != j) {
              step.add(new int[] {i, j, j, i, 0});
            }
          }
          out.add(step);
        }
        return out;
      default:
        return null;
    }
  }

  private static void round(List<List<int[]>> out, int m, int ahead, int adds) {
    for (int t = 0; t <= m - 2; t++) {
      List<int[]> step = new ArrayList<>();
      for (int i = 0; i < m; i++) {
        int b = Math.floorMod(i + ahead - t, m);
        step.add(new int[] {i, (i + 1) % m, b, b, adds});
      }
      out.add(step);
    }
  }

  private static List<List<int[]>> treeSpread(int root, int m) {
    List<List<int[]>> out = new ArrayList<>();
    for (int d = 1; d < m; d *= 2) {
      List<int[]> step = new ArrayList<>();
      for (int q = 0; q < d; q++) {
        if (q + d < m) {
          step.addAll(all((root + q) % m, (root + q + d) % m, m, 0));
        }
      }
      out.add(step);
    }
    return out;
  }

  private static List<List<int[]>> treeToOne(int root, int m) {
    List<List<int[]>> out = new ArrayList<>();
    for (List<int[]> step : treeSpread(root, m)) {
      List<int[]> back = new ArrayList<>();
      for (int[] s : step) {
        back.add(new int[] {s[1], s[0], s[2], s[3], 1});
      }
      out.add(0, back);
    }
    return out;
  }

  private static List<List<int[]>> halving(int ask, int m) {
    List<List<int[]>> out = new ArrayList<>();
    for (int d = 1; d < m; d *= 2) {
      List<int[]> step = new ArrayList<>();
      for (int i = 0; i < m; i++) {
        if (ask == 2) {
          step.addAll(all(i, i ^ d, m, 1));
        } else {
          for (int b = i - i % d; b < i - i % d + d; b++) {
            step.add(new int[] {i, i ^ d, b, b, 0});
          }
        }
      }
      out.add(step);
    }
    return out;
  }

  int build(int way, int ask, int root) {
    List<Send> sends = new ArrayList<>();
    int steps = make(way, ask, root, sends);
    if (steps >= 0) {
      plan = sends;
    }
    return steps;
  }

  int clear() {
    int had = plan.size();
    plan.clear();
    return had;
  }

  int send(int step, int from, int to, int block, int there, boolean adds) {
    if (step < 0 || step > 63 || !liveHost(from) || !liveHost(to) || from == to || wait[from][to] < 0) {
      return -1;
    }
    if (block < 0 || block > 15 || there < 0 || there > 15 || plan.size() >= 1200) {
      return -1;
    }
    for (Send s : plan) {
      boolean toTwo = s.from == from && s.to != to;
      boolean fromTwo = s.to == to && s.from != from;
      boolean twice = s.to == to && s.there == there;
      if (s.step == step && (toTwo || fromTwo || twice)) {
        return -1;
      }
    }
    plan.add(new Send(step, from, to, block, there, adds));
    return plan.size();
  }

  int sent(int i, int what) {
    if (i < 0 || i >= plan.size() || what < 0 || what > 5) {
      return -1;
    }
    List<Send> sorted = new ArrayList<>(plan);
    sorted.sort((a, b) -> a.step != b.step ? a.step - b.step : a.from != b.from ? a.from - b.from : a.there - b.there);
    Send s = sorted.get(i);
    return new int[] {s.step, s.from, s.to, s.block, s.there, s.adds ? 1 : 0}[what];
  }

  /** Sums as bags: how often each sign (host and block) is in them, at most three times being told. */
  int right(int ask, int root) {
    if (ask < 0 || ask > 4 || !liveHost(root)) {
      return 2;
    }
    Map<Integer, Map<Integer, Integer>> now = new HashMap<>();
    for (int c = 0; c < 16 * n; c++) {
      now.put(c, Map.of(c, 1));
    }
    for (int step = 0; step < 64; step++) {
      Map<Integer, Map<Integer, Integer>> then = new HashMap<>(now);
      for (Send s : plan) {
        if (s.step == step) {
          Map<Integer, Integer> comes = now.get(16 * s.from + s.block);
          int c = 16 * s.to + s.there;
          then.put(c, s.adds ? joined(now.get(c), comes) : comes);
        }
      }
      now = then;
    }
    List<Integer> r = ranks();
    for (int h : r) {
      for (int b = 0; b < 16; b++) {
        boolean free = ask == 1 && h != root && b < r.size();
        if (!free && !now.get(16 * h + b).equals(asked(ask, root, h, b))) {
          return -100 * h - b - 1;
        }
      }
    }
    return 1;
  }

  private static Map<Integer, Integer> joined(Map<Integer, Integer> a, Map<Integer, Integer> b) {
    Map<Integer, Integer> sum = new HashMap<>(a);
    for (Map.Entry<Integer, Integer> e : b.entrySet()) {
      sum.merge(e.getKey(), e.getValue(), (x, y) -> Math.min(3, x + y));
    }
    return sum;
  }

  private Map<Integer, Integer> asked(int ask, int root, int h, int b) {
    List<Integer> r = ranks();
    if (b >= r.size()) {
      return Map.of(16 * h + b, 1);
    }
    Map<Integer, Integer> sum = new HashMap<>();
    for (int other : r) {
      sum.put(16 * other + b, 1);
    }
    switch (ask) {
      case 0:
        return Map.of(16 * root + b, 1);
      case 3:
        return Map.of(16 * r.get(b) + b, 1);
      case 4:
        return Map.of(16 * r.get(b) + r.indexOf(h), 1);
      default:
        return sum;
    }
  }

  int run() {
    for (int step = 0; step < 64; step++) {
      int[][] then = new int[n][];
      for (int h = 0; h < n; h++) {
        then[h] = heap[h].clone();
      }
      for (Send s : plan) {
        if (s.step == step) {
          int v = heap[s.from][s.block];
          then[s.to][s.there] = s.adds ? heap[s.to][s.there] + v : v;
        }
      }
      heap = then;
    }
    return steps(plan);
  }

  /** The letters of a step: from and to, with their ticks. */
  private Map<List<Integer>, Integer> letters(List<Send> sends, int step) {
    Map<List<Integer>, Integer> out = new HashMap<>();
    for (Send s : sends) {
      if (s.step == step) {
        int p = per[s.from][s.to];
        out.merge(List.of(s.from, s.to), wait[s.from][s.to] + p, (x, y) -> x + p);
      }
    }
    return out;
  }

  private int ticksOf(List<Send> sends) {
    int sum = 0;
    for (int step = 0; step < 64; step++) {
      int longest = 0;
      for (int t : letters(sends, step).values()) {
        longest = Math.max(longest, t);
      }
      sum += longest;
    }
    return sum;
  }

  int ticks() {
    return ticksOf(plan);
  }

  int freely(int h) {
    if (!liveHost(h)) {
      return -1;
    }
    int[] time = lateBy.clone();
    for (int step = 0; step < 64; step++) {
      int[] latest = new int[n];
      Arrays.fill(latest, -1);
      for (Map.Entry<List<Integer>, Integer> e : letters(plan, step).entrySet()) {
        int from = e.getKey().get(0);
        int to = e.getKey().get(1);
        int end = Math.max(time[from], time[to]) + e.getValue();
        latest[from] = Math.max(latest[from], end);
        latest[to] = Math.max(latest[to], end);
      }
      for (int i = 0; i < n; i++) {
        time[i] = latest[i] >= 0 ? latest[i] : time[i];
      }
    }
    return time[h];
  }

  int best(int ask, int root) {
    if (ask < 0 || ask > 4 || !liveHost(root)) {
      return -1;
    }
    int way = -2;
    for (int w = 3; w >= 0; w--) {
      int p = price(w, ask, root);
      if (p >= 0 && (way == -2 || p <= price(way, ask, root))) {
        way = w;
      }
    }
    return way;
  }

  int price(int way, int ask, int root) {
    List<Send> sends = new ArrayList<>();
    int steps = make(way, ask, root, sends);
    return steps < 0 ? steps : ticksOf(sends);
  }

  int fewest(int root) {
    if (!liveHost(root) || ranks().size() > 8) {
      return -1;
    }
    Set<Set<Integer>> layer = new HashSet<>();
    layer.add(Set.of(root));
    Set<Integer> goal = new HashSet<>(ranks());
    for (int steps = 0; steps < 8; steps++) {
      if (layer.contains(goal)) {
        return steps;
      }
      Set<Set<Integer>> next = new HashSet<>();
      for (Set<Integer> has : layer) {
        extend(new ArrayList<>(has), 0, has, next);
      }
      layer = next;
    }
    return -1;
  }

  /** Every choice of every sender: nobody, or one who lacks the heap and whom no one sends to yet. */
  private void extend(List<Integer> senders, int i, Set<Integer> has, Set<Set<Integer>> out) {
    if (i == senders.size()) {
      out.add(has);
      return;
    }
    extend(senders, i + 1, has, out);
    for (int h = 0; h < n; h++) {
      if (live[h] && wait[senders.get(i)][h] >= 0 && !has.contains(h)) {
        Set<Integer> more = new HashSet<>(has);
        more.add(h);
        extend(senders, i + 1, more, out);
      }
    }
  }
}
