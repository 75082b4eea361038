import java.util.Objects;

/** What the tests share: it prints every answer that is not the one that is due. */
final class Check {
  interface Call {
    Object answer();
  }

  private static int wrong = 0;

  private Check() {}

  static void due(String what, Object got, Object want) {
    if (!Objects.equals(got, want)) {
      wrong++;
      System.out.println(what + " answered " + got + ", due is " + want);
    }
  }

  /** The answer of a call as a text; the name of the exception's own class, if it throws one. */
  static String answer(Call call) {
    try {
      return String.valueOf(call.answer());
    } catch (RuntimeException e) {
      return "throws." + e.getClass().getSimpleName();
    }
  }

  /** The call throws this very class, no class below it, and changes nothing that can be seen. */
  static void dueThrow(
      String what, ProtocolMachine m, Class<? extends RuntimeException> want, Call call) {
    String before = look(m);
    due(what, answer(call), "throws." + want.getSimpleName());
    due(what + ", what is seen then,", look(m), before);
  }

  static void noState(String what, ProtocolMachine m, Call call) {
    dueThrow(what, m, IllegalStateException.class, call);
  }

  static void noIndex(String what, ProtocolMachine m, Call call) {
    dueThrow(what, m, IndexOutOfBoundsException.class, call);
  }

  static void noArgument(String what, ProtocolMachine m, Call call) {
    dueThrow(what, m, IllegalArgumentException.class, call);
  }

  /** All that the face shows of an object. */
  static String look(ProtocolMachine m) {
    StringBuilder s = new StringBuilder();
    s.append("states ").append(m.stateCount()).append(" transitions ");
    for (int t = 0; t < m.transitionCount(); t++) {
      s.append(m.isHidden(t) ? "h" : "v").append(m.fired(t)).append(' ');
    }
    s.append("state ").append(m.state()).append(" time ").append(m.time()).append(" values ");
    for (int v = 0; v < 3; v++) {
      s.append(m.value(v)).append(' ');
    }
    s.append("left ");
    for (int timer = 0; timer < 4; timer++) {
      s.append(m.left(timer)).append(' ');
    }
    s.append("emitted ").append(m.emitted()).append(": ");
    for (int i = 0; i < Math.min(60, m.emitted()); i++) {
      s.append(m.output(i)).append(' ');
    }
    s.append("ignored ").append(m.ignored());
    if (m.isCompiled()) {
      lookAtTable(m, s);
    }
    return s.append(" digest ").append(m.digest()).toString();
  }

  private static void lookAtTable(ProtocolMachine m, StringBuilder s) {
    s.append(" classes ");
    for (int state = 0; state < m.stateCount(); state++) {
      s.append(m.classOf(state)).append(' ');
    }
    s.append("rows ");
    for (int c = 0; c < m.compile(); c++) {
      s.append(m.offset(c)).append('/').append(m.used(c)).append(' ');
    }
    s.append("line ");
    for (int cell = 0; cell < m.tableSize(); cell++) {
      s.append(m.owner(cell)).append(' ');
    }
    s.append("density ").append(m.density());
  }

  static void addStates(ProtocolMachine m, int count) {
    for (int i = 0; i < count; i++) {
      m.addState();
    }
  }

  /** Adds a transition without a guard. */
  static int link(ProtocolMachine m, int state, int event, int next) {
    return m.addTransition(state, event, -1, 0, 0, next);
  }

  static void end() {
    if (wrong != 0) {
      System.out.println(wrong + " answers are not as due");
      System.exit(1);
    }
  }
}
