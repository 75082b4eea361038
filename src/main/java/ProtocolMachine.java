import java.util.Arrays;

/**
 * A compiler and an executor for protocols that are given as tables of states, events and timers.
 *
 * <p>The public methods look at their arguments and throw; the classes inside do the work and rely
 * on arguments that have been looked at.
 */
public final class ProtocolMachine {
  private static final int STATES = 12;
  private static final int EVENTS = 8;
  private static final int TIMERS = 4;
  private static final int VARIABLES = 3;
  private static final int TRANSITIONS = 40;
  private static final int ACTIONS = 3;
  private static final int LIMIT = 1000;
  private static final int KEPT = 60;
  private static final int GREATEST_EMIT = 99;

  /** Stands for no guard, no transition, no class, no due time. */
  private static final int NONE = -1;

  private static final int LESS = 0;
  private static final int EQUAL = 1;
  private static final int GREATER = 2;

  private static final int SET = 0;
  private static final int ADD = 1;
  private static final int START = 2;
  private static final int STOP = 3;
  private static final int EMIT = 4;

  /** A row that fits nowhere else fits behind all taken cells, so the line never gets longer. */
  private static final int LINE = STATES * EVENTS;

  /** A duration is at least 1, so each timer is taken at most once a tick. */
  private static final int MOST_TAKEN = TIMERS * LIMIT;

  private final Protocol protocol;
  private final Execution execution;
  private final Table table;

  public ProtocolMachine() {
    protocol = new Protocol();
    execution = new Execution(protocol);
    table = new Table(protocol);
  }

  // ---- protocol

  public int addState() throws IllegalStateException {
    if (protocol.states >= STATES) {
      throw new IllegalStateException("there are 12 states");
    }
    table.made = false;
    protocol.states++;
    return protocol.states - 1;
  }

  public int addTransition(int state, int event, int variable, int relation, int number, int next)
      throws IndexOutOfBoundsException, IllegalArgumentException, IllegalStateException {
    if (!isBelow(state, protocol.states) || !isBelow(next, protocol.states)) {
      throw new IndexOutOfBoundsException("there is no such state");
    }
    if (!isBelow(event, EVENTS)) {
      throw new IndexOutOfBoundsException("there is no such event");
    }
    if (variable != NONE && !isBelow(variable, VARIABLES)) {
      throw new IndexOutOfBoundsException("there is no such variable");
    }
    if (variable != NONE && (relation < LESS || relation > GREATER || !isNumber(number))) {
      throw new IllegalArgumentException("there is no such guard");
    }
    if (protocol.transitions >= TRANSITIONS) {
      throw new IllegalStateException("there are 40 transitions");
    }
    table.made = false;
    int transition = protocol.append(state, event, next);
    if (variable != NONE) {
      protocol.guard(transition, variable, relation, number);
    }
    execution.fired[transition] = 0;
    return transition;
  }

  public int addAction(int transition, int kind, int a, int b)
      throws IndexOutOfBoundsException, IllegalArgumentException, IllegalStateException {
    if (!isBelow(transition, protocol.transitions)) {
      throw new IndexOutOfBoundsException("there is no such transition");
    }
    if (!isAction(kind, a, b)) {
      throw new IllegalArgumentException("there is no such action");
    }
    if (protocol.actions[transition] >= ACTIONS) {
      throw new IllegalStateException("the transition has 3 actions");
    }
    table.made = false;
    return protocol.appendAction(transition, kind, a, b);
  }

  public int drop() throws IllegalStateException {
    if (protocol.transitions <= 0) {
      throw new IllegalStateException("there is no transition");
    }
    table.made = false;
    protocol.transitions--;
    return protocol.transitions;
  }

  public int setTimerEvent(int timer, int event) throws IndexOutOfBoundsException {
    if (!isBelow(timer, TIMERS) || !isBelow(event, EVENTS)) {
      throw new IndexOutOfBoundsException("there is no such timer or event");
    }
    table.made = false;
    int before = protocol.timerEvent[timer];
    protocol.timerEvent[timer] = event;
    return before;
  }

  public int stateCount() {
    return protocol.states;
  }

  public int transitionCount() {
    return protocol.transitions;
  }

  public boolean isHidden(int transition) throws IndexOutOfBoundsException {
    if (!isBelow(transition, protocol.transitions)) {
      throw new IndexOutOfBoundsException("there is no such transition");
    }
    return protocol.isBehindAnother(transition);
  }

  // ---- execution

  public long restart() {
    long before = execution.now;
    execution.begin();
    return before;
  }

  public int happen(int event) throws IndexOutOfBoundsException {
    if (!isBelow(event, EVENTS)) {
      throw new IndexOutOfBoundsException("there is no such event");
    }
    return execution.react(event);
  }

  public int advance(int ticks) throws IllegalArgumentException {
    if (ticks < 0 || ticks > LIMIT) {
      throw new IllegalArgumentException("ticks is not 0 to 1000");
    }
    return execution.goOn(ticks);
  }

  public int state() {
    return execution.present;
  }

  public long time() {
    return execution.now;
  }

  public int value(int variable) throws IndexOutOfBoundsException {
    if (!isBelow(variable, VARIABLES)) {
      throw new IndexOutOfBoundsException("there is no such variable");
    }
    return execution.values[variable];
  }

  public int left(int timer) throws IndexOutOfBoundsException {
    if (!isBelow(timer, TIMERS)) {
      throw new IndexOutOfBoundsException("there is no such timer");
    }
    return execution.ticksLeft(timer);
  }

  public int emitted() {
    return execution.emits;
  }

  public int output(int index) throws IndexOutOfBoundsException {
    if (!isBelow(index, execution.kept)) {
      throw new IndexOutOfBoundsException("there is no such index in the output");
    }
    return execution.outputs[index];
  }

  public int fired(int transition) throws IndexOutOfBoundsException {
    if (!isBelow(transition, protocol.transitions)) {
      throw new IndexOutOfBoundsException("there is no such transition");
    }
    return execution.fired[transition];
  }

  public int ignored() {
    return execution.ignores;
  }

  // ---- tables

  public int compile() {
    if (!table.made) {
      table.make();
    }
    return table.classes;
  }

  public boolean isCompiled() {
    return table.made;
  }

  public int classOf(int state) throws IllegalStateException, IndexOutOfBoundsException {
    needTable();
    if (!isBelow(state, protocol.states)) {
      throw new IndexOutOfBoundsException("there is no such state");
    }
    return table.stateClass[state];
  }

  public int offset(int number) throws IllegalStateException, IndexOutOfBoundsException {
    needClass(number);
    return table.offsets[number];
  }

  public int used(int number) throws IllegalStateException, IndexOutOfBoundsException {
    needClass(number);
    return table.usedCells(number);
  }

  public int tableSize() throws IllegalStateException {
    needTable();
    return table.size;
  }

  public int owner(int cell) throws IllegalStateException, IndexOutOfBoundsException {
    needTable();
    if (!isBelow(cell, table.size)) {
      throw new IndexOutOfBoundsException("there is no such cell");
    }
    return table.owners[cell];
  }

  public double density() throws IllegalStateException {
    needTable();
    if (table.size <= 0) {
      return 1.0;
    }
    return (double) table.taken / (double) table.size;
  }

  public long digest() {
    long d = 127;
    d = mix(d, protocol.states);
    d = mix(d, protocol.transitions);
    for (int t = 0; t < protocol.transitions; t++) {
      d = mix(d, protocol.from[t]);
      d = mix(d, protocol.event[t]);
      d = mix(d, protocol.next[t]);
      d = mix(d, protocol.actions[t]);
      d = mix(d, execution.fired[t]);
    }
    d = mixExecution(d);
    return table.made ? mixTable(d) : d;
  }

  private long mixExecution(long start) {
    long d = mix(start, execution.present);
    d = mix(d, execution.now);
    for (int v = 0; v < VARIABLES; v++) {
      d = mix(d, execution.values[v]);
    }
    for (int timer = 0; timer < TIMERS; timer++) {
      d = mix(d, execution.ticksLeft(timer));
    }
    d = mix(d, execution.emits);
    return mix(d, execution.ignores);
  }

  private long mixTable(long start) {
    long d = mix(start, table.classes);
    for (int c = 0; c < table.classes; c++) {
      d = mix(d, table.offsets[c]);
    }
    return d;
  }

  private static long mix(long d, long x) {
    return d * 31 + x;
  }

  // ---- what the methods ask of their arguments

  private void needTable() {
    if (!table.made) {
      throw new IllegalStateException("there is no table");
    }
  }

  private void needClass(int number) {
    needTable();
    if (!isBelow(number, table.classes)) {
      throw new IndexOutOfBoundsException("there is no such class");
    }
  }

  private static boolean isBelow(int index, int count) {
    return index >= 0 && index < count;
  }

  private static boolean isNumber(int number) {
    return number >= -LIMIT && number <= LIMIT;
  }

  private static boolean isAction(int kind, int a, int b) {
    switch (kind) {
      case SET:
      case ADD:
        return isBelow(a, VARIABLES) && isNumber(b);
      case START:
        return isBelow(a, TIMERS) && b >= 1 && b <= LIMIT;
      case STOP:
        return isBelow(a, TIMERS);
      case EMIT:
        return a >= 0 && a <= GREATEST_EMIT;
      default:
        return false;
    }
  }

  /** The states, the transitions and the events of the timers. */
  private static final class Protocol {
    int states = 1;
    int transitions = 0;
    final int[] timerEvent = new int[TIMERS];
    final int[] from = new int[TRANSITIONS];
    final int[] event = new int[TRANSITIONS];
    final int[] next = new int[TRANSITIONS];
    final int[] variable = new int[TRANSITIONS];
    final int[] relation = new int[TRANSITIONS];
    final int[] number = new int[TRANSITIONS];

    /** How many actions each transition has; they stand from ACTIONS * transition on. */
    final int[] actions = new int[TRANSITIONS];

    final int[] kind = new int[TRANSITIONS * ACTIONS];
    final int[] a = new int[TRANSITIONS * ACTIONS];
    final int[] b = new int[TRANSITIONS * ACTIONS];

    Protocol() {
      for (int timer = 0; timer < TIMERS; timer++) {
        timerEvent[timer] = timer;
      }
    }

    /** Appends a transition without a guard: what has no meaning is 0, so that it is the same. */
    int append(int state, int itsEvent, int nextState) {
      int t = transitions;
      from[t] = state;
      event[t] = itsEvent;
      next[t] = nextState;
      variable[t] = NONE;
      relation[t] = 0;
      number[t] = 0;
      actions[t] = 0;
      transitions++;
      return t;
    }

    void guard(int t, int itsVariable, int itsRelation, int itsNumber) {
      variable[t] = itsVariable;
      relation[t] = itsRelation;
      number[t] = itsNumber;
    }

    /** Appends an action; a b without a meaning is 0, so that it is the same. */
    int appendAction(int t, int itsKind, int itsA, int itsB) {
      int place = ACTIONS * t + actions[t];
      kind[place] = itsKind;
      a[place] = itsA;
      b[place] = itsKind == STOP || itsKind == EMIT ? 0 : itsB;
      actions[t]++;
      return actions[t];
    }

    /** The first transition behind another one (or NONE) that belongs to a state and an event. */
    int firstBehind(int other, int state, int itsEvent) {
      for (int t = other + 1; t < transitions; t++) {
        if (from[t] == state && event[t] == itsEvent) {
          return t;
        }
      }
      return NONE;
    }

    /** The smallest value for which the guard is true. */
    int lowest(int t) {
      switch (relation[t]) {
        case LESS:
          return -LIMIT;
        case EQUAL:
          return number[t];
        default:
          return number[t] + 1;
      }
    }

    /** The greatest value for which the guard is true; below lowest, if there is none. */
    int highest(int t) {
      switch (relation[t]) {
        case LESS:
          return number[t] - 1;
        case EQUAL:
          return number[t];
        default:
          return LIMIT;
      }
    }

    boolean isBehindAnother(int t) {
      for (int earlier = 0; earlier < t; earlier++) {
        if (from[earlier] == from[t] && event[earlier] == event[t] && covers(earlier, t)) {
          return true;
        }
      }
      return false;
    }

    /** Whether the earlier guard is true whenever the later one is. */
    boolean covers(int earlier, int later) {
      if (variable[earlier] == NONE) {
        return true;
      }
      if (variable[earlier] != variable[later]) {
        return false;
      }
      int low = lowest(later);
      int high = highest(later);
      return low > high || (lowest(earlier) <= low && high <= highest(earlier));
    }

    /** Whether two transitions have the same guards and the same actions in the same order. */
    boolean doTheSame(int one, int other) {
      boolean sameGuards =
          variable[one] == variable[other]
              && relation[one] == relation[other]
              && number[one] == number[other];
      if (!sameGuards || actions[one] != actions[other]) {
        return false;
      }
      for (int k = 0; k < actions[one]; k++) {
        int i = ACTIONS * one + k;
        int j = ACTIONS * other + k;
        if (kind[i] != kind[j] || a[i] != a[j] || b[i] != b[j]) {
          return false;
        }
      }
      return true;
    }
  }

  /** The present state, time, variables, timers, output and counts. */
  private static final class Execution {
    final Protocol protocol;
    int present = 0;
    long now = 0;
    int emits = 0;
    int kept = 0;
    int ignores = 0;
    final int[] values = new int[VARIABLES];

    /** When each timer is due; NONE if it does not run. */
    final long[] due = new long[TIMERS];

    final int[] outputs = new int[KEPT];
    final int[] fired = new int[TRANSITIONS];

    Execution(Protocol itsProtocol) {
      protocol = itsProtocol;
      Arrays.fill(due, NONE);
    }

    void begin() {
      present = 0;
      now = 0;
      emits = 0;
      kept = 0;
      ignores = 0;
      Arrays.fill(values, 0);
      Arrays.fill(due, NONE);
      Arrays.fill(fired, 0);
    }

    int ticksLeft(int timer) {
      return due[timer] == NONE ? NONE : (int) (due[timer] - now);
    }

    /** Lets an event happen, and tells which transition fired. */
    int react(int event) {
      int t = firstTrue(event);
      if (t == NONE) {
        ignores++;
        return NONE;
      }
      fired[t]++;
      for (int k = 0; k < protocol.actions[t]; k++) {
        act(ACTIONS * t + k);
      }
      present = protocol.next[t];
      return t;
    }

    int firstTrue(int event) {
      int t = NONE;
      for (int n = 0; n < TRANSITIONS; n++) {
        t = protocol.firstBehind(t, present, event);
        if (t == NONE || isTrue(t)) {
          return t;
        }
      }
      return NONE;
    }

    boolean isTrue(int t) {
      int variable = protocol.variable[t];
      if (variable == NONE) {
        return true;
      }
      return protocol.lowest(t) <= values[variable] && values[variable] <= protocol.highest(t);
    }

    void act(int place) {
      int a = protocol.a[place];
      int b = protocol.b[place];
      switch (protocol.kind[place]) {
        case SET:
          values[a] = b;
          break;
        case ADD:
          values[a] = Math.max(-LIMIT, Math.min(LIMIT, values[a] + b));
          break;
        case START:
          due[a] = now + b;
          break;
        case STOP:
          due[a] = NONE;
          break;
        default:
          emit(a);
          break;
      }
    }

    void emit(int number) {
      if (kept < KEPT) {
        outputs[kept] = number;
        kept++;
      }
      emits++;
    }

    /** Lets time go on, and tells how many timers were taken. */
    int goOn(int ticks) {
      long target = now + ticks;
      int takenTimers = 0;
      int timer = firstDue(target);
      while (timer != NONE && takenTimers < MOST_TAKEN) {
        now = due[timer];
        due[timer] = NONE;
        react(protocol.timerEvent[timer]);
        takenTimers++;
        timer = firstDue(target);
      }
      now = target;
      return takenTimers;
    }

    /** The timer that is due first, at the target time or earlier. */
    int firstDue(long target) {
      int first = NONE;
      for (int timer = 0; timer < TIMERS; timer++) {
        boolean isDue = due[timer] != NONE && due[timer] <= target;
        if (isDue && (first == NONE || due[timer] < due[first])) {
          first = timer;
        }
      }
      return first;
    }
  }

  /** The classes of states, and the line of cells into which their rows are laid. */
  private static final class Table {
    final Protocol protocol;
    boolean made = false;
    int classes = 0;
    int size = 0;
    int taken = 0;

    /** The class of each state; NONE if it is left out. */
    final int[] stateClass = new int[STATES];

    final int[] finerClass = new int[STATES];

    /** The used cells of each class's row, a bit for each event. */
    final int[] usedBits = new int[STATES];

    final int[] offsets = new int[STATES];
    final int[] owners = new int[LINE];

    Table(Protocol itsProtocol) {
      protocol = itsProtocol;
    }

    void make() {
      putReachedIntoOneClass();
      int before = 0;
      classes = 1;
      // Classes are split only where they must be: so the greatest ones are left.
      for (int round = 0; round < STATES && classes != before; round++) {
        before = classes;
        classes = splitOnce();
      }
      findUsedCells();
      layRows();
      made = true;
    }

    void putReachedIntoOneClass() {
      Arrays.fill(stateClass, NONE);
      stateClass[0] = 0;
      // After a round that reaches no new state none does: as many rounds as states are enough.
      for (int round = 0; round < protocol.states; round++) {
        for (int t = 0; t < protocol.transitions; t++) {
          if (stateClass[protocol.from[t]] != NONE) {
            stateClass[protocol.next[t]] = 0;
          }
        }
      }
    }

    /** Splits each class by the rows of its states, and tells how many classes there are then. */
    int splitOnce() {
      int count = 0;
      for (int s = 0; s < protocol.states; s++) {
        finerClass[s] = NONE;
        if (stateClass[s] != NONE) {
          int twin = earlierTwin(s);
          finerClass[s] = twin == NONE ? count : finerClass[twin];
          count += twin == NONE ? 1 : 0;
        }
      }
      System.arraycopy(finerClass, 0, stateClass, 0, protocol.states);
      return count;
    }

    int earlierTwin(int state) {
      for (int s = 0; s < state; s++) {
        if (stateClass[s] == stateClass[state] && haveSameRows(s, state)) {
          return s;
        }
      }
      return NONE;
    }

    boolean haveSameRows(int one, int other) {
      for (int event = 0; event < EVENTS; event++) {
        if (!haveSameCells(one, other, event)) {
          return false;
        }
      }
      return true;
    }

    boolean haveSameCells(int one, int other, int event) {
      int i = protocol.firstBehind(NONE, one, event);
      int j = protocol.firstBehind(NONE, other, event);
      for (int n = 0; n < TRANSITIONS && i != NONE && j != NONE; n++) {
        boolean goToOneClass = stateClass[protocol.next[i]] == stateClass[protocol.next[j]];
        if (!goToOneClass || !protocol.doTheSame(i, j)) {
          return false;
        }
        i = protocol.firstBehind(i, one, event);
        j = protocol.firstBehind(j, other, event);
      }
      return i == NONE && j == NONE;
    }

    void findUsedCells() {
      Arrays.fill(usedBits, 0);
      for (int t = 0; t < protocol.transitions; t++) {
        int c = stateClass[protocol.from[t]];
        if (c != NONE) {
          usedBits[c] |= 1 << protocol.event[t];
        }
      }
    }

    int usedCells(int c) {
      return Integer.bitCount(usedBits[c]);
    }

    void layRows() {
      Arrays.fill(owners, NONE);
      size = 0;
      taken = 0;
      for (int cells = EVENTS; cells >= 0; cells--) {
        for (int c = 0; c < classes; c++) {
          if (usedCells(c) == cells) {
            layRow(c);
          }
        }
      }
    }

    void layRow(int c) {
      int at = 0;
      while (at < LINE - EVENTS && !isFree(c, at)) {
        at++;
      }
      offsets[c] = at;
      for (int event = 0; event < EVENTS; event++) {
        if (isUsed(c, event)) {
          owners[at + event] = c;
          size = Math.max(size, at + event + 1);
          taken++;
        }
      }
    }

    boolean isFree(int c, int at) {
      for (int event = 0; event < EVENTS; event++) {
        if (isUsed(c, event) && owners[at + event] != NONE) {
          return false;
        }
      }
      return true;
    }

    boolean isUsed(int c, int event) {
      return ((usedBits[c] >> event) & 1) != 0;
    }
  }
}
