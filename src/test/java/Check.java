/** Counts and prints the answers that are not as due. */
final class Check {
    private int checked;
    private int wrong;

    void due(String what, long got, long want) {
        checked++;
        if (got != want) {
            wrong++;
            System.out.println(what + " answered " + got + ", due is " + want);
        }
    }

    void due(String what, boolean got, boolean want) {
        due(what, got ? 1 : 0, want ? 1 : 0);
    }

    void dueText(String what, String got, String want) {
        checked++;
        if (!got.equals(want)) {
            wrong++;
            System.out.println(what + " answered " + got + ", due is " + want);
        }
    }

    void dueThrow(String what, Class<?> want, Runnable call) {
        String got = "nothing";
        try {
            call.run();
        } catch (RuntimeException e) {
            got = e.getClass().getName();
        }
        dueText(what + " thrown", got, want.getName());
    }

    void stateDue(String what, Runnable call) {
        dueThrow(what, IllegalStateException.class, call);
    }

    void argumentDue(String what, Runnable call) {
        dueThrow(what, IllegalArgumentException.class, call);
    }

    void indexDue(String what, Runnable call) {
        dueThrow(what, IndexOutOfBoundsException.class, call);
    }

    /** look(0) to look(7), side by side. */
    void looks(String what, PictureFile x, int... want) {
        for (int i = 0; i < want.length; i++) {
            due(what + ": look(" + i + ")", x.look(i), want[i]);
        }
    }

    /** The answer of read() and where the fault was. */
    void faultDue(String what, PictureFile x, int kind, int page, int tag, int strip) {
        due(what + ": read()", x.read(), -kind);
        due(what + ": fault(0)", x.fault(0), page);
        due(what + ": fault(1)", x.fault(1), tag);
        due(what + ": fault(2)", x.fault(2), strip);
        due(what + ": look(6)", x.look(6), 0);
        due(what + ": look(7)", x.look(7), 0);
        indexDue(what + ": of(0, 0)", () -> x.of(0, 0));
    }

    void end(String name) {
        System.out.println(name + ": " + checked + " answers, " + wrong + " not as due");
        if (wrong != 0 || checked == 0) {
            System.exit(1);
        }
    }
}
