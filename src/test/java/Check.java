import java.util.Objects;

/** What the tests share: it prints every answer that is not the one that is due. */
final class Check {
  interface Call {
    Object answer();
  }

  /** A call on an object that is handed to it. */
  interface CallOn {
    Object on(ProtocolMachine m);
  }

  /** Makes an object, and does the calls that come before the one that is looked at. */
  interface Setup {
    ProtocolMachine make();
  }

  private static int wrong = 0;

  private Check() {}

  static void due(String what, Object got, Object want) {
    if (!Objects.equals(got, want)) {
      wrong++;
      System.out.println(what + " answered " + got + ", due is " + want);
    }
  }

  /** The answer of a call as a text; the name of the exception's own class, if it throws one. */
  static String answer(Call call) {
    try {
      return String.valueOf(call.answer());
    } catch (RuntimeException e) {
      return "throws." + e.getClass().getSimpleName();
    }
  }

  /**
   * The call throws this very class, no class below it, and leaves the checksum as it was. (All
   * else that a refused call must leave is looked at by refused, which needs objects of its own.)
   */
  static void dueThrow(
      String what, ProtocolMachine m, Class<? extends RuntimeException> want, Call call) {
    long before = m.digest();
    due(what, answer(call), "throws." + want.getSimpleName());
    due(what + ", digest() then,", m.digest(), before);
  }

  static void noState(String what, ProtocolMachine m, Call call) {
    dueThrow(what, m, IllegalStateException.class, call);
  }

  static void noIndex(String what, ProtocolMachine m, Call call) {
    dueThrow(what, m, IndexOutOfBoundsException.class, call);
  }

  static void noArgument(String what, ProtocolMachine m, Call call) {
    dueThrow(what, m, IllegalArgumentException.class, call);
  }

  /**
   * The call throws this very class on an object of the setup, and the object then answers, and
   * goes on, as another one on which the call was never made.
   */
  static void refused(
      String what, Class<? extends RuntimeException> want, Setup setup, CallOn call) {
    ProtocolMachine m = setup.make();
    due(what, answer(() -> call.on(m)), "throws." + want.getSimpleName());
    due(what + ", what is seen then,", lookAndGoOn(m), lookAndGoOn(setup.make()));
  }

  /** All that the face shows of an object, in fewer than 300 calls: 512 are all that it answers. */
  private static String look(ProtocolMachine m) {
    StringBuilder s = new StringBuilder();
    s.append("states ").append(m.stateCount()).append(" transitions ");
    int transitions = m.transitionCount();
    for (int t = 0; t < transitions; t++) {
      s.append(m.isHidden(t) ? "h" : "v").append(m.fired(t)).append(' ');
    }
    s.append("state ").append(m.state()).append(" time ").append(m.time()).append(" values ");
    for (int v = 0; v < 3; v++) {
      s.append(m.value(v)).append(' ');
    }
    s.append("left ");
    for (int timer = 0; timer < 4; timer++) {
      s.append(m.left(timer)).append(' ');
    }
    int emitted = m.emitted();
    s.append("emitted ").append(emitted).append(": ");
    for (int i = 0; i < Math.min(60, emitted); i++) {
      s.append(m.output(i)).append(' ');
    }
    s.append("ignored ").append(m.ignored());
    if (m.isCompiled()) {
      lookAtTable(m, s);
    }
    return s.append(" digest ").append(m.digest()).toString();
  }

  private static void lookAtTable(ProtocolMachine m, StringBuilder s) {
    s.append(" classes ");
    int states = m.stateCount();
    for (int state = 0; state < states; state++) {
      s.append(m.classOf(state)).append(' ');
    }
    s.append("rows ");
    int classes = m.compile();
    for (int c = 0; c < classes; c++) {
      s.append(m.offset(c)).append('/').append(m.used(c)).append(' ');
    }
    s.append("line ");
    int size = m.tableSize();
    for (int cell = 0; cell < size; cell++) {
      s.append(m.owner(cell)).append(' ');
    }
    s.append("density ").append(m.density());
  }

  /** Also what only later calls show: guards, actions, and the events of the timers. */
  private static String lookAndGoOn(ProtocolMachine m) {
    StringBuilder s = new StringBuilder(look(m));
    s.append(" going on ");
    for (int event = 0; event < 8; event++) {
      s.append(m.happen(event)).append(' ').append(m.advance(1 + event)).append(' ');
    }
    s.append(m.advance(1000)).append(" digest ").append(m.digest()).append(" events ");
    for (int timer = 0; timer < 4; timer++) {
      s.append(m.setTimerEvent(timer, 7)).append(' ');
    }
    return s.append(m.compile()).append(" digest ").append(m.digest()).toString();
  }

  static void addStates(ProtocolMachine m, int count) {
    for (int i = 0; i < count; i++) {
      m.addState();
    }
  }

  /** Adds a transition without a guard. */
  static int link(ProtocolMachine m, int state, int event, int next) {
    return m.addTransition(state, event, -1, 0, 0, next);
  }

  static void end() {
    if (wrong != 0) {
      System.out.println(wrong + " answers are not as due");
      System.exit(1);
    }
  }
}
