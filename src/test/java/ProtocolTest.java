/** Promises 1 to 9: what builds a protocol and tells of it. */
public final class ProtocolTest {
  private static final int SET = 0;
  private static final int ADD = 1;
  private static final int START = 2;
  private static final int STOP = 3;
  private static final int EMIT = 4;

  public static void main(String[] args) {
    newObject();
    addState();
    addTransition();
    addTransitionThrows();
    addTransitionThrowsInOrder();
    addAction();
    addActionThrows();
    drop();
    dropForgetsWhatTheTransitionHad();
    setTimerEvent();
    counts();
    isHidden();
    isHiddenOfAnotherCell();
    everyChangeDropsTheTable();
    Check.end();
  }

  private static void newObject() {
    ProtocolMachine m = new ProtocolMachine();
    Check.due("new: stateCount()", m.stateCount(), 1);
    Check.due("new: transitionCount()", m.transitionCount(), 0);
    Check.due("new: time()", m.time(), 0L);
    Check.due("new: state()", m.state(), 0);
    Check.due("new: emitted()", m.emitted(), 0);
    Check.due("new: ignored()", m.ignored(), 0);
    Check.due("new: isCompiled()", m.isCompiled(), false);
    for (int v = 0; v < 3; v++) {
      Check.due("new: value(" + v + ")", m.value(v), 0);
    }
    for (int timer = 0; timer < 4; timer++) {
      Check.due("new: left(" + timer + ")", m.left(timer), -1);
      Check.due("new: event of timer " + timer, m.setTimerEvent(timer, timer), timer);
    }
    ProtocolMachine other = new ProtocolMachine();
    m.addState();
    m.happen(0);
    Check.due("another object: stateCount()", other.stateCount(), 1);
    Check.due("another object: ignored()", other.ignored(), 0);
  }

  private static void addState() {
    ProtocolMachine m = new ProtocolMachine();
    for (int number = 1; number < 12; number++) {
      Check.due("addState()", m.addState(), number);
    }
    Check.noState("addState() the 12th time", m, m::addState);
    m.compile();
    Check.noState("addState() with a table", m, m::addState);
  }

  private static void addTransition() {
    ProtocolMachine m = new ProtocolMachine();
    m.addState();
    Check.due("addTransition", m.addTransition(0, 0, 2, 2, 1000, 1), 0);
    Check.due("addTransition", m.addTransition(1, 7, 0, 0, -1000, 0), 1);
    Check.due("addTransition", m.addTransition(1, 7, -1, 77, 7777, 0), 2);
    Check.due("happen(7) in state 0", m.happen(7), -1);
    Check.due("transitionCount()", m.transitionCount(), 3);
    for (int number = 3; number < 40; number++) {
      Check.due("addTransition", m.addTransition(1, 1, 1, 1, number, 1), number);
    }
    Check.noState("addTransition the 41st time", m, () -> m.addTransition(0, 0, -1, 0, 0, 0));
    m.drop();
    Check.due("addTransition after drop", m.addTransition(0, 0, -1, 0, 0, 0), 39);
  }

  private static void addTransitionThrows() {
    ProtocolMachine m = new ProtocolMachine();
    m.addState();
    m.compile();
    int[] noStates = {-1, 2, 12, Integer.MIN_VALUE, Integer.MAX_VALUE};
    for (int s : noStates) {
      Check.noIndex("state " + s, m, () -> m.addTransition(s, 0, -1, 0, 0, 0));
      Check.noIndex("next " + s, m, () -> m.addTransition(0, 0, -1, 0, 0, s));
    }
    int[] noEvents = {-1, 8, Integer.MIN_VALUE, Integer.MAX_VALUE};
    for (int e : noEvents) {
      Check.noIndex("event " + e, m, () -> m.addTransition(0, e, -1, 0, 0, 0));
    }
    int[] noVariables = {-2, 3, Integer.MIN_VALUE, Integer.MAX_VALUE};
    for (int v : noVariables) {
      Check.noIndex("variable " + v, m, () -> m.addTransition(0, 0, v, 0, 0, 0));
    }
    int[] noRelations = {-1, 3, Integer.MIN_VALUE, Integer.MAX_VALUE};
    for (int r : noRelations) {
      Check.noArgument("relation " + r, m, () -> m.addTransition(0, 0, 0, r, 0, 0));
    }
    int[] noNumbers = {-1001, 1001, Integer.MIN_VALUE, Integer.MAX_VALUE};
    for (int n : noNumbers) {
      Check.noArgument("number " + n, m, () -> m.addTransition(0, 0, 0, 0, n, 0));
    }
    Check.due("transitionCount()", m.transitionCount(), 0);
  }

  private static void addTransitionThrowsInOrder() {
    ProtocolMachine m = new ProtocolMachine();
    for (int i = 0; i < 40; i++) {
      m.addTransition(0, 0, -1, 0, 0, 0);
    }
    Check.noIndex("next, relation, 40", m, () -> m.addTransition(0, 0, 0, 3, 0, 1));
    Check.noIndex("variable, relation, 40", m, () -> m.addTransition(0, 0, 3, 3, 0, 0));
    Check.noIndex("event, 40", m, () -> m.addTransition(0, 8, -1, 0, 0, 0));
    Check.noArgument("relation, 40", m, () -> m.addTransition(0, 0, 0, 3, 0, 0));
    Check.noArgument("number, 40", m, () -> m.addTransition(0, 0, 0, 0, 1001, 0));
    Check.noState("40 without a guard", m, () -> m.addTransition(0, 0, -1, 3, 1001, 0));
  }

  private static void addAction() {
    ProtocolMachine m = new ProtocolMachine();
    Check.link(m, 0, 0, 0);
    Check.link(m, 0, 1, 0);
    Check.due("SET", m.addAction(0, SET, 0, -1000), 1);
    Check.due("ADD", m.addAction(0, ADD, 2, 1000), 2);
    Check.due("START", m.addAction(1, START, 3, 1000), 1);
    Check.due("STOP", m.addAction(1, STOP, 3, -5555), 2);
    Check.due("EMIT", m.addAction(1, EMIT, 99, 5555), 3);
    Check.due("EMIT", m.addAction(0, EMIT, 0, Integer.MIN_VALUE), 3);
    m.happen(0);
    Check.due("value(0)", m.value(0), -1000);
    Check.due("value(2)", m.value(2), 1000);
    Check.due("output(0)", m.output(0), 0);
    m.happen(1);
    Check.due("START, then STOP: left(3)", m.left(3), -1);
    Check.due("output(1)", m.output(1), 99);
  }

  private static void addActionThrows() {
    ProtocolMachine m = new ProtocolMachine();
    Check.noIndex("no transition", m, () -> m.addAction(0, EMIT, 0, 0));
    Check.link(m, 0, 0, 0);
    m.compile();
    Check.noIndex("transition 1", m, () -> m.addAction(1, 9, 0, 0));
    Check.noIndex("transition -1", m, () -> m.addAction(-1, EMIT, 0, 0));
    noAction(m, -1, 0, 1);
    noAction(m, 5, 0, 1);
    for (int kind = SET; kind <= ADD; kind++) {
      noAction(m, kind, -1, 0);
      noAction(m, kind, 3, 0);
      noAction(m, kind, 0, -1001);
      noAction(m, kind, 0, 1001);
    }
    noAction(m, START, -1, 1);
    noAction(m, START, 4, 1);
    noAction(m, START, 0, 0);
    noAction(m, START, 0, 1001);
    noAction(m, STOP, -1, 0);
    noAction(m, STOP, 4, 0);
    noAction(m, EMIT, -1, 0);
    noAction(m, EMIT, 100, 0);
    for (int i = 0; i < 3; i++) {
      m.addAction(0, EMIT, i, 0);
    }
    noAction(m, 5, 0, 0);
    noAction(m, EMIT, 100, 0);
    Check.noState("a 4th action", m, () -> m.addAction(0, EMIT, 0, 0));
    m.happen(0);
    Check.due("emitted by 3 actions", m.emitted(), 3);
  }

  private static void noAction(ProtocolMachine m, int kind, int a, int b) {
    String call = "addAction(0, " + kind + ", " + a + ", " + b + ")";
    Check.noArgument(call, m, () -> m.addAction(0, kind, a, b));
  }

  private static void drop() {
    ProtocolMachine m = new ProtocolMachine();
    Check.noState("drop() of none", m, m::drop);
    m.compile();
    Check.noState("drop() of none with a table", m, m::drop);
    m.addState();
    Check.link(m, 0, 0, 1);
    Check.link(m, 0, 1, 1);
    Check.due("drop()", m.drop(), 1);
    Check.due("event of the dropped one", m.happen(1), -1);
    Check.due("event of the one that is left", m.happen(0), 0);
    Check.due("drop()", m.drop(), 0);
    Check.due("drop() leaves the present state", m.state(), 1);
    Check.noState("drop() once more", m, m::drop);
  }

  private static void dropForgetsWhatTheTransitionHad() {
    ProtocolMachine m = new ProtocolMachine();
    m.addTransition(0, 0, 0, 1, 0, 0);
    m.addAction(0, EMIT, 1, 0);
    m.addAction(0, SET, 0, 5);
    m.happen(0);
    m.drop();
    Check.link(m, 0, 0, 0);
    Check.due("fired(0) of the new one", m.fired(0), 0);
    Check.due("the new one has no guard", m.happen(0), 0);
    Check.due("the new one has no actions", m.emitted(), 1);
    Check.due("addAction to the new one", m.addAction(0, EMIT, 2, 0), 1);
  }

  private static void setTimerEvent() {
    ProtocolMachine m = new ProtocolMachine();
    Check.due("setTimerEvent(3, 7)", m.setTimerEvent(3, 7), 3);
    Check.due("setTimerEvent(3, 0)", m.setTimerEvent(3, 0), 7);
    Check.due("setTimerEvent(3, 0) again", m.setTimerEvent(3, 0), 0);
    int[] noTimers = {-1, 4, Integer.MAX_VALUE};
    int[] noEvents = {-1, 8, Integer.MIN_VALUE};
    m.compile();
    for (int timer : noTimers) {
      Check.noIndex("timer " + timer, m, () -> m.setTimerEvent(timer, 0));
    }
    for (int event : noEvents) {
      Check.noIndex("event " + event, m, () -> m.setTimerEvent(0, event));
    }
    Check.due("setTimerEvent(0, 5)", m.setTimerEvent(0, 5), 0);
    Check.link(m, 0, 1, 0);
    m.addAction(0, START, 0, 1);
    Check.link(m, 0, 5, 0);
    m.happen(1);
    m.advance(1);
    Check.due("the event that was set happened", m.fired(1), 1);
    m.happen(1);
    m.setTimerEvent(0, 6);
    m.advance(1);
    Check.due("an event set while the timer runs counts", m.ignored(), 1);
  }

  private static void counts() {
    ProtocolMachine m = new ProtocolMachine();
    Check.addStates(m, 4);
    Check.due("stateCount()", m.stateCount(), 5);
    Check.link(m, 4, 0, 3);
    Check.link(m, 3, 0, 4);
    Check.due("transitionCount()", m.transitionCount(), 2);
    m.drop();
    Check.due("transitionCount() after drop", m.transitionCount(), 1);
    m.restart();
    Check.due("stateCount() after restart", m.stateCount(), 5);
    Check.due("transitionCount() after restart", m.transitionCount(), 1);
  }

  /** Whether a later guard on variable 1 is hidden by an earlier one on variable 1. */
  private static boolean hides(int relation, int number, int laterRelation, int laterNumber) {
    ProtocolMachine m = new ProtocolMachine();
    m.addTransition(0, 3, 1, relation, number, 0);
    m.addTransition(0, 3, 1, laterRelation, laterNumber, 0);
    return m.isHidden(1);
  }

  private static void isHidden() {
    ProtocolMachine m = new ProtocolMachine();
    Check.noIndex("isHidden(0) of none", m, () -> m.isHidden(0));
    int[] numbers = {-1000, -999, -998, -1, 0, 1, 998, 999, 1000};
    for (int relation = 0; relation < 3; relation++) {
      for (int number : numbers) {
        for (int later = 0; later < 3; later++) {
          for (int laterNumber : numbers) {
            boolean want = true;
            for (int x = -1000; x <= 1000; x++) {
              want = want && (!isTrue(x, later, laterNumber) || isTrue(x, relation, number));
            }
            String what = relation + " " + number + " hides " + later + " " + laterNumber;
            Check.due(what, hides(relation, number, later, laterNumber), want);
          }
        }
      }
    }
  }

  private static boolean isTrue(int x, int relation, int number) {
    return relation == 0 ? x < number : relation == 1 ? x == number : x > number;
  }

  private static void isHiddenOfAnotherCell() {
    ProtocolMachine m = new ProtocolMachine();
    m.addState();
    m.addTransition(0, 0, -1, 0, 0, 0);
    m.addTransition(0, 1, -1, 0, 0, 0);
    m.addTransition(1, 0, 0, 2, 0, 0);
    Check.due("another event", m.isHidden(1), false);
    Check.due("another state", m.isHidden(2), false);
    m.addTransition(1, 0, 1, 2, 0, 0);
    Check.due("another variable", m.isHidden(3), false);
    m.addTransition(1, 0, 2, 0, -1000, 0);
    Check.due("never true, another variable", m.isHidden(4), false);
    m.addTransition(1, 0, 0, 0, -1000, 0);
    Check.due("never true, the same variable", m.isHidden(5), true);
    m.addTransition(1, 0, -1, 0, 0, 0);
    Check.due("no guard behind guards", m.isHidden(6), false);
    m.addTransition(1, 0, 2, 2, 1000, 0);
    Check.due("a guard behind none", m.isHidden(7), true);
    m.addTransition(1, 0, -1, 0, 0, 0);
    Check.due("no guard behind none", m.isHidden(8), true);
    Check.due("a later one hides no earlier one", m.isHidden(2), false);
    Check.noIndex("isHidden(9)", m, () -> m.isHidden(9));
    Check.noIndex("isHidden(-1)", m, () -> m.isHidden(-1));
  }

  private static void everyChangeDropsTheTable() {
    ProtocolMachine m = new ProtocolMachine();
    m.compile();
    m.addState();
    Check.due("addState: isCompiled()", m.isCompiled(), false);
    m.compile();
    Check.link(m, 0, 0, 0);
    Check.due("addTransition: isCompiled()", m.isCompiled(), false);
    m.compile();
    m.addAction(0, EMIT, 0, 0);
    Check.due("addAction: isCompiled()", m.isCompiled(), false);
    m.compile();
    m.drop();
    Check.due("drop: isCompiled()", m.isCompiled(), false);
    m.compile();
    m.setTimerEvent(0, 0);
    Check.due("setTimerEvent: isCompiled()", m.isCompiled(), false);
  }
}
