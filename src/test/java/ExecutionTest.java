/** Promises 10 to 20: what lets the protocol run and tells of the run. */
public final class ExecutionTest {
  private static final int SET = 0;
  private static final int ADD = 1;
  private static final int START = 2;
  private static final int STOP = 3;
  private static final int EMIT = 4;

  public static void main(String[] args) {
    restart();
    happenTakesTheFirstTrueOne();
    happenLooksAtAllTransitions();
    happenThrows();
    guardsAtTheirEdges();
    actionsInOrder();
    addStaysInItsRange();
    advanceTakesTimersInOrder();
    advanceFollowsThePresentState();
    advanceAtItsMost();
    advanceThrows();
    startAgainAndStop();
    value();
    left();
    output();
    fired();
    ignored();
    runningKeepsTheTable();
    Check.end();
  }

  private static void restart() {
    ProtocolMachine m = new ProtocolMachine();
    Check.due("restart() of a new one", m.restart(), 0L);
    m.addState();
    Check.link(m, 0, 0, 1);
    m.addAction(0, SET, 1, 7);
    m.addAction(0, START, 2, 9);
    m.addAction(0, EMIT, 5, 0);
    m.setTimerEvent(2, 0);
    m.advance(3);
    m.happen(0);
    m.happen(0);
    m.compile();
    Check.due("restart()", m.restart(), 3L);
    Check.due("time()", m.time(), 0L);
    Check.due("state()", m.state(), 0);
    Check.due("value(1)", m.value(1), 0);
    Check.due("left(2)", m.left(2), -1);
    Check.due("emitted()", m.emitted(), 0);
    Check.due("ignored()", m.ignored(), 0);
    Check.due("fired(0)", m.fired(0), 0);
    Check.noIndex("output(0)", m, () -> m.output(0));
    Check.due("the table stays", m.isCompiled(), true);
    m.happen(0);
    Check.due("the actions stay", m.output(0), 5);
    Check.due("advance(9)", m.advance(9), 1);
    Check.due("the event of the timer stays", m.setTimerEvent(2, 0), 0);
    Check.due("restart() again", m.restart(), 9L);
  }

  private static void happenTakesTheFirstTrueOne() {
    ProtocolMachine m = new ProtocolMachine();
    m.addState();
    m.addTransition(1, 6, -1, 0, 0, 1);
    m.addTransition(0, 6, 0, 1, 1, 0);
    m.addTransition(0, 7, 0, 1, 0, 0);
    m.addTransition(0, 6, 0, 1, 0, 1);
    m.addTransition(0, 6, -1, 0, 0, 0);
    Check.due("happen(6)", m.happen(6), 3);
    Check.due("state()", m.state(), 1);
    Check.due("happen(6) in state 1", m.happen(6), 0);
    Check.due("happen(7) in state 1", m.happen(7), -1);
    Check.due("ignored: state()", m.state(), 1);
    Check.due("happen lets no time go on", m.time(), 0L);
  }

  private static void happenLooksAtAllTransitions() {
    ProtocolMachine m = new ProtocolMachine();
    for (int t = 0; t < 39; t++) {
      m.addTransition(0, 0, 0, 1, 1 + t, 0);
    }
    Check.due("none of 39", m.happen(0), -1);
    m.addTransition(0, 0, 0, 1, 0, 0);
    Check.due("the last of 40", m.happen(0), 39);
  }

  private static void happenThrows() {
    ProtocolMachine m = new ProtocolMachine();
    Check.noIndex("happen(-1)", m, () -> m.happen(-1));
    Check.noIndex("happen(8)", m, () -> m.happen(8));
    Check.noIndex("happen(least)", m, () -> m.happen(Integer.MIN_VALUE));
    Check.noIndex("happen(most)", m, () -> m.happen(Integer.MAX_VALUE));
    Check.due("happen(7)", m.happen(7), -1);
  }

  private static void guardsAtTheirEdges() {
    int[] numbers = {-1000, -999, 0, 999, 1000};
    int[] values = {-1000, -999, -1, 0, 1, 999, 1000};
    for (int relation = 0; relation < 3; relation++) {
      for (int number : numbers) {
        for (int value : values) {
          ProtocolMachine m = new ProtocolMachine();
          m.addTransition(0, 0, 2, relation, number, 0);
          Check.link(m, 0, 1, 0);
          m.addAction(1, SET, 2, value);
          m.happen(1);
          boolean want =
              relation == 0 ? value < number : relation == 1 ? value == number : value > number;
          String what = value + " by relation " + relation + " to " + number;
          Check.due(what, m.happen(0), want ? 0 : -1);
        }
      }
    }
  }

  private static void actionsInOrder() {
    ProtocolMachine m = new ProtocolMachine();
    Check.link(m, 0, 0, 0);
    m.addAction(0, ADD, 0, 3);
    m.addAction(0, SET, 0, 10);
    m.addAction(0, ADD, 0, 1);
    m.happen(0);
    Check.due("ADD, SET, ADD", m.value(0), 11);
    Check.due("the others stay", m.value(1) + m.value(2), 0);
  }

  private static void addStaysInItsRange() {
    ProtocolMachine m = new ProtocolMachine();
    Check.link(m, 0, 0, 0);
    m.addAction(0, ADD, 0, 999);
    Check.link(m, 0, 1, 0);
    m.addAction(1, ADD, 0, -1000);
    Check.link(m, 0, 2, 0);
    m.addAction(2, ADD, 0, 1);
    m.happen(0);
    m.happen(2);
    Check.due("999 + 1", m.value(0), 1000);
    m.happen(2);
    Check.due("1000 + 1", m.value(0), 1000);
    m.happen(1);
    m.happen(1);
    Check.due("1000 - 2000", m.value(0), -1000);
    m.happen(1);
    Check.due("-1000 - 1000", m.value(0), -1000);
    m.happen(2);
    Check.due("-1000 + 1", m.value(0), -999);
  }

  private static void advanceTakesTimersInOrder() {
    ProtocolMachine m = new ProtocolMachine();
    Check.link(m, 0, 7, 0);
    m.addAction(0, START, 3, 2);
    m.addAction(0, START, 1, 5);
    m.addAction(0, START, 0, 5);
    for (int timer = 0; timer < 4; timer++) {
      Check.link(m, 0, timer, 0);
      m.addAction(1 + timer, EMIT, timer, 0);
    }
    m.happen(7);
    Check.due("advance(1)", m.advance(1), 0);
    Check.due("advance(0)", m.advance(0), 0);
    Check.due("advance(4)", m.advance(4), 3);
    Check.due("due first", m.output(0), 3);
    Check.due("due with another, smallest number", m.output(1), 0);
    Check.due("due with another", m.output(2), 1);
    Check.due("time()", m.time(), 5L);
    Check.due("advance(1000)", m.advance(1000), 0);
    Check.due("time() then", m.time(), 1005L);
  }

  private static void advanceFollowsThePresentState() {
    ProtocolMachine m = new ProtocolMachine();
    m.addState();
    Check.link(m, 0, 7, 0);
    m.addAction(0, START, 0, 4);
    m.addAction(0, START, 1, 4);
    m.addAction(0, START, 2, 6);
    Check.link(m, 0, 0, 1);
    m.addAction(1, STOP, 1, 0);
    m.addAction(1, START, 3, 10);
    Check.link(m, 1, 2, 0);
    m.happen(7);
    Check.due("advance(8)", m.advance(8), 2);
    Check.due("in the state after the first timer", m.fired(2), 1);
    Check.due("started at the due time", m.left(3), 6);
    Check.due("a stopped timer is not taken", m.ignored(), 0);
    Check.due("advance(6)", m.advance(6), 1);
    Check.due("an event of a timer is ignored", m.ignored(), 1);
  }

  private static void advanceAtItsMost() {
    ProtocolMachine m = new ProtocolMachine();
    for (int timer = 0; timer < 4; timer++) {
      Check.link(m, 0, timer, 0);
      m.addAction(timer, START, timer, 1);
      m.addAction(timer, ADD, 0, 1);
      m.addAction(timer, EMIT, timer, 0);
      m.happen(timer);
    }
    Check.due("advance(1000)", m.advance(1000), 4000);
    Check.due("time()", m.time(), 1000L);
    Check.due("left(3)", m.left(3), 1);
    Check.due("emitted()", m.emitted(), 4004);
    Check.due("fired(3)", m.fired(3), 1001);
    Check.due("advance(1)", m.advance(1), 4);
  }

  private static void advanceThrows() {
    ProtocolMachine m = new ProtocolMachine();
    int[] noTicks = {-1, 1001, Integer.MIN_VALUE, Integer.MAX_VALUE};
    for (int ticks : noTicks) {
      Check.noArgument("advance(" + ticks + ")", m, () -> m.advance(ticks));
    }
  }

  private static void startAgainAndStop() {
    ProtocolMachine m = new ProtocolMachine();
    Check.link(m, 0, 7, 0);
    m.addAction(0, START, 0, 10);
    Check.link(m, 0, 6, 0);
    m.addAction(1, STOP, 0, 0);
    m.happen(7);
    m.advance(9);
    m.happen(7);
    Check.due("started again: left(0)", m.left(0), 10);
    Check.due("started again: advance(9)", m.advance(9), 0);
    m.happen(6);
    Check.due("stopped: left(0)", m.left(0), -1);
    Check.due("stopped: advance(5)", m.advance(5), 0);
    m.happen(6);
    Check.due("stopped again: left(0)", m.left(0), -1);
  }

  private static void value() {
    ProtocolMachine m = new ProtocolMachine();
    for (int v = 0; v < 3; v++) {
      Check.link(m, 0, v, 0);
      m.addAction(v, SET, v, 100 + v);
      m.happen(v);
      Check.due("value(" + v + ")", m.value(v), 100 + v);
    }
    Check.noIndex("value(-1)", m, () -> m.value(-1));
    Check.noIndex("value(3)", m, () -> m.value(3));
  }

  private static void left() {
    ProtocolMachine m = new ProtocolMachine();
    Check.link(m, 0, 5, 0);
    m.addAction(0, START, 3, 1000);
    m.advance(7);
    m.happen(5);
    Check.due("left(3)", m.left(3), 1000);
    m.advance(999);
    Check.due("left(3) 999 ticks later", m.left(3), 1);
    m.advance(1);
    Check.due("left(3) when it was taken", m.left(3), -1);
    Check.noIndex("left(-1)", m, () -> m.left(-1));
    Check.noIndex("left(4)", m, () -> m.left(4));
  }

  private static void output() {
    ProtocolMachine m = new ProtocolMachine();
    Check.noIndex("output(0) of none", m, () -> m.output(0));
    for (int event = 0; event < 8; event++) {
      Check.link(m, 0, event, 0);
      m.addAction(event, EMIT, 10 + event, 0);
    }
    for (int n = 0; n < 59; n++) {
      m.happen(n % 8);
    }
    Check.noIndex("output(59) of 59", m, () -> m.output(59));
    for (int n = 59; n < 70; n++) {
      m.happen(n % 8);
    }
    Check.due("emitted()", m.emitted(), 70);
    for (int n = 0; n < 60; n++) {
      Check.due("output(" + n + ")", m.output(n), 10 + n % 8);
    }
    Check.noIndex("output(60) of 70", m, () -> m.output(60));
    Check.noIndex("output(-1)", m, () -> m.output(-1));
    m.restart();
    m.happen(7);
    Check.due("output(0) after restart", m.output(0), 17);
    Check.noIndex("output(1) after restart", m, () -> m.output(1));
  }

  private static void fired() {
    ProtocolMachine m = new ProtocolMachine();
    Check.noIndex("fired(0) of none", m, () -> m.fired(0));
    Check.link(m, 0, 0, 0);
    Check.link(m, 0, 1, 0);
    m.happen(0);
    m.happen(0);
    m.happen(1);
    Check.due("fired(0)", m.fired(0), 2);
    Check.due("fired(1)", m.fired(1), 1);
    m.drop();
    Check.noIndex("fired(1) of a dropped one", m, () -> m.fired(1));
    Check.link(m, 0, 1, 0);
    Check.due("fired(1) of a new one", m.fired(1), 0);
    Check.due("fired(0) then", m.fired(0), 2);
    Check.noIndex("fired(-1)", m, () -> m.fired(-1));
  }

  private static void ignored() {
    ProtocolMachine m = new ProtocolMachine();
    m.addTransition(0, 0, 0, 2, 0, 0);
    m.happen(0);
    m.happen(1);
    Check.due("ignored()", m.ignored(), 2);
    Check.link(m, 0, 1, 0);
    m.happen(1);
    Check.due("ignored() when one fired", m.ignored(), 2);
  }

  private static void runningKeepsTheTable() {
    ProtocolMachine m = new ProtocolMachine();
    m.addState();
    Check.link(m, 0, 0, 1);
    m.compile();
    m.happen(0);
    m.advance(10);
    m.restart();
    Check.due("isCompiled()", m.isCompiled(), true);
  }
}
