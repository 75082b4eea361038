import java.util.ArrayList;
import java.util.Comparator;
import java.util.HashSet;
import java.util.List;
import java.util.Map;
import java.util.Set;
import java.util.TreeMap;
import java.util.TreeSet;

/**
 * The document once more, in other words: what each call must answer, written for plainness with
 * the Java library, so that ModelTest can compare long runs of calls.
 */
final class Model {
  private record Guard(int variable, int relation, int number) {
    boolean isTrueFor(int x) {
      return relation == 0 ? x < number : relation == 1 ? x == number : x > number;
    }
  }

  private record Action(int kind, int a, int b) {}

  private static final class Transition {
    int state;
    int event;
    Guard guard;
    int next;
    int fired = 0;
    final List<Action> actions = new ArrayList<>();
  }

  private int states = 1;
  private final List<Transition> transitions = new ArrayList<>();
  private final int[] timerEvents = {0, 1, 2, 3};

  private int state = 0;
  private long time = 0;
  private int[] values = new int[3];
  private Map<Integer, Long> dueTimes = new TreeMap<>();
  private List<Integer> output = new ArrayList<>();
  private int ignored = 0;

  private boolean compiled = false;
  private int[] classes;
  private int classCount;
  private int[] offsets;
  private List<Set<Integer>> rows;
  private TreeMap<Integer, Integer> cells;

  private static void index(boolean fine) {
    if (!fine) throw new IndexOutOfBoundsException();
  }

  private static void argument(boolean fine) {
    if (!fine) throw new IllegalArgumentException();
  }

  private static void state(boolean fine) {
    if (!fine) throw new IllegalStateException();
  }

  private static boolean within(int x, int from, int to) {
    return from <= x && x <= to;
  }

  int addState() {
    state(states != 12);
    compiled = false;
    return states++;
  }

  int addTransition(int s, int event, int variable, int relation, int number, int next) {
    index(within(s, 0, states - 1) && within(event, 0, 7));
    index(within(variable, -1, 2) && within(next, 0, states - 1));
    argument(variable == -1 || within(relation, 0, 2) && within(number, -1000, 1000));
    state(transitions.size() != 40);
    compiled = false;
    Transition t = new Transition();
    t.state = s;
    t.event = event;
    t.guard = variable == -1 ? null : new Guard(variable, relation, number);
    t.next = next;
    transitions.add(t);
    return transitions.size() - 1;
  }

  int addAction(int transition, int kind, int a, int b) {
    index(within(transition, 0, transitions.size() - 1));
    argument(within(kind, 0, 4));
    int[] greatestA = {2, 2, 3, 3, 99};
    argument(within(a, 0, greatestA[kind]));
    argument(kind >= 3 || within(b, kind == 2 ? 1 : -1000, 1000));
    List<Action> actions = transitions.get(transition).actions;
    state(actions.size() != 3);
    compiled = false;
    actions.add(new Action(kind, a, kind >= 3 ? 0 : b));
    return actions.size();
  }

  int drop() {
    state(!transitions.isEmpty());
    compiled = false;
    transitions.remove(transitions.size() - 1);
    return transitions.size();
  }

  int setTimerEvent(int timer, int event) {
    index(within(timer, 0, 3) && within(event, 0, 7));
    compiled = false;
    int before = timerEvents[timer];
    timerEvents[timer] = event;
    return before;
  }

  int stateCount() {
    return states;
  }

  int transitionCount() {
    return transitions.size();
  }

  boolean isHidden(int transition) {
    index(within(transition, 0, transitions.size() - 1));
    Transition later = transitions.get(transition);
    return transitions.subList(0, transition).stream()
        .anyMatch(t -> t.state == later.state && t.event == later.event && hides(t.guard, later.guard));
  }

  private static boolean hides(Guard earlier, Guard later) {
    if (earlier == null) return true;
    if (later == null || earlier.variable != later.variable) return false;
    for (int x = -1000; x <= 1000; x++) {
      if (later.isTrueFor(x) && !earlier.isTrueFor(x)) return false;
    }
    return true;
  }

  long restart() {
    long before = time;
    state = 0;
    time = 0;
    values = new int[3];
    dueTimes = new TreeMap<>();
    output = new ArrayList<>();
    ignored = 0;
    transitions.forEach(t -> t.fired = 0);
    return before;
  }

  int happen(int event) {
    index(within(event, 0, 7));
    for (Transition t : transitions) {
      boolean open = t.guard == null || t.guard.isTrueFor(values[t.guard.variable]);
      if (t.state == state && t.event == event && open) {
        t.actions.forEach(this::act);
        state = t.next;
        t.fired++;
        return transitions.indexOf(t);
      }
    }
    ignored++;
    return -1;
  }

  private void act(Action action) {
    int a = action.a;
    int b = action.b;
    if (action.kind == 0) values[a] = b;
    if (action.kind == 1) values[a] += b;
    if (action.kind == 1 && values[a] > 1000) values[a] = 1000;
    if (action.kind == 1 && values[a] < -1000) values[a] = -1000;
    if (action.kind == 2) dueTimes.put(a, time + b);
    if (action.kind == 3) dueTimes.remove(a);
    if (action.kind == 4) output.add(a);
  }

  /** Goes tick by tick: what is due at one time is taken by number, and nothing new is due then. */
  int advance(int ticks) {
    argument(within(ticks, 0, 1000));
    int taken = 0;
    for (int tick = 0; tick < ticks; tick++) {
      time++;
      for (int timer = 0; timer < 4; timer++) {
        if (dueTimes.getOrDefault(timer, -1L) == time) {
          dueTimes.remove(timer);
          happen(timerEvents[timer]);
          taken++;
        }
      }
    }
    return taken;
  }

  int state() {
    return state;
  }

  long time() {
    return time;
  }

  int value(int variable) {
    index(within(variable, 0, 2));
    return values[variable];
  }

  int left(int timer) {
    index(within(timer, 0, 3));
    return dueTimes.containsKey(timer) ? (int) (dueTimes.get(timer) - time) : -1;
  }

  int emitted() {
    return output.size();
  }

  int output(int i) {
    index(within(i, 0, Math.min(60, output.size()) - 1));
    return output.get(i);
  }

  int fired(int transition) {
    index(within(transition, 0, transitions.size() - 1));
    return transitions.get(transition).fired;
  }

  int ignored() {
    return ignored;
  }

  int compile() {
    findClasses();
    layRows();
    compiled = true;
    return classCount;
  }

  private void reach(int s, Set<Integer> reached) {
    if (reached.add(s)) {
      transitions.stream().filter(t -> t.state == s).forEach(t -> reach(t.next, reached));
    }
  }

  private List<Transition> cell(int s, int event) {
    return transitions.stream().filter(t -> t.state == s && t.event == event).toList();
  }

  /** Marks the pairs of states that differ, until no more are found. */
  private void findClasses() {
    Set<Integer> reached = new TreeSet<>();
    reach(0, reached);
    boolean[][] differ = new boolean[12][12];
    boolean found = true;
    while (found) {
      found = false;
      for (int p : reached) {
        for (int q : reached) {
          if (!differ[p][q] && differNow(p, q, differ)) {
            differ[p][q] = true;
            found = true;
          }
        }
      }
    }
    classes = new int[states];
    classCount = 0;
    for (int p = 0; p < states; p++) {
      classes[p] = reached.contains(p) ? classCount : -1;
      for (int q = p - 1; q >= 0 && classes[p] >= 0; q--) {
        if (reached.contains(q) && !differ[p][q]) classes[p] = classes[q];
      }
      if (classes[p] == classCount) classCount++;
    }
  }

  private boolean differNow(int p, int q, boolean[][] differ) {
    for (int event = 0; event < 8; event++) {
      List<Transition> one = cell(p, event);
      List<Transition> other = cell(q, event);
      if (one.size() != other.size()) return true;
      for (int i = 0; i < one.size(); i++) {
        Transition t = one.get(i);
        Transition u = other.get(i);
        if (t.guard == null ? u.guard != null : !t.guard.equals(u.guard)) return true;
        if (!t.actions.equals(u.actions) || differ[t.next][u.next]) return true;
      }
    }
    return false;
  }

  private void layRows() {
    rows = new ArrayList<>();
    List<Integer> order = new ArrayList<>();
    for (int c = 0; c < classCount; c++) {
      rows.add(new HashSet<>());
      order.add(c);
    }
    for (Transition t : transitions) {
      if (classes[t.state] >= 0) rows.get(classes[t.state]).add(t.event);
    }
    order.sort(Comparator.comparing((Integer c) -> -rows.get(c).size()).thenComparing(c -> c));
    offsets = new int[classCount];
    cells = new TreeMap<>();
    for (int c : order) {
      int offset = 0;
      while (clashes(rows.get(c), offset)) offset++;
      offsets[c] = offset;
      for (int event : rows.get(c)) cells.put(offset + event, c);
    }
  }

  private boolean clashes(Set<Integer> row, int offset) {
    return row.stream().anyMatch(event -> cells.containsKey(offset + event));
  }

  boolean isCompiled() {
    return compiled;
  }

  int classOf(int s) {
    state(compiled);
    index(within(s, 0, states - 1));
    return classes[s];
  }

  int offset(int number) {
    state(compiled);
    index(within(number, 0, classCount - 1));
    return offsets[number];
  }

  int used(int number) {
    state(compiled);
    index(within(number, 0, classCount - 1));
    return rows.get(number).size();
  }

  int tableSize() {
    state(compiled);
    return cells.isEmpty() ? 0 : cells.lastKey() + 1;
  }

  int owner(int cell) {
    int size = tableSize();
    index(within(cell, 0, size - 1));
    return cells.getOrDefault(cell, -1);
  }

  double density() {
    int size = tableSize();
    return size == 0 ? 1.0 : (double) cells.size() / size;
  }

  long digest() {
    List<Long> numbers = new ArrayList<>();
    numbers.add((long) states);
    numbers.add((long) transitions.size());
    for (Transition t : transitions) {
      for (int x : new int[] {t.state, t.event, t.next, t.actions.size(), t.fired}) {
        numbers.add((long) x);
      }
    }
    numbers.add((long) state);
    numbers.add(time);
    for (int v = 0; v < 3; v++) numbers.add((long) values[v]);
    for (int timer = 0; timer < 4; timer++) numbers.add((long) left(timer));
    numbers.add((long) output.size());
    numbers.add((long) ignored);
    if (compiled) {
      numbers.add((long) classCount);
      for (int c = 0; c < classCount; c++) numbers.add((long) offsets[c]);
    }
    long d = 127;
    for (long x : numbers) d = d * 31 + x;
    return d;
  }
}
