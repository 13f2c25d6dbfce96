import java.util.function.BooleanSupplier;

/** Counts and prints the answers that are not as due. */
final class Check {
    private int checked;
    private int wrong;
    private int sentences;
    private String about = "";

    /** A test of its own for one sentence of the document; its words name what does not hold. */
    void sentence(String words, Runnable test) {
        int before = checked;
        sentences++;
        about = "\"" + words + "\": ";
        try {
            test.run();
        } catch (RuntimeException e) {
            fail("the test met " + e);
        }
        if (checked == before) {
            fail("nothing was tested");
        }
        about = "";
    }

    private void fail(String what) {
        wrong++;
        System.out.println(about + what);
    }

    void due(String what, long got, long want) {
        checked++;
        if (got != want) {
            fail(what + " answered " + got + ", due is " + want);
        }
    }

    void due(String what, boolean got, boolean want) {
        due(what, got ? 1 : 0, want ? 1 : 0);
    }

    void dueText(String what, String got, String want) {
        checked++;
        if (!got.equals(want)) {
            fail(what + " answered " + got + ", due is " + want);
        }
    }

    void dueThrow(String what, Class<?> want, Runnable call) {
        String got = "nothing";
        try {
            call.run();
        } catch (RuntimeException e) {
            got = e.getClass().getName();
        }
        dueText(what + " thrown", got, want.getName());
    }

    void stateDue(String what, Runnable call) {
        dueThrow(what, IllegalStateException.class, call);
    }

    void argumentDue(String what, Runnable call) {
        dueThrow(what, IllegalArgumentException.class, call);
    }

    void indexDue(String what, Runnable call) {
        dueThrow(what, IndexOutOfBoundsException.class, call);
    }

    /** The call answers false, and changes nothing. */
    void refused(String what, PictureFile x, BooleanSupplier call) {
        String before = Shot.of(x);
        due(what, call.getAsBoolean(), false);
        dueText(what + " left", Shot.of(x), before);
    }

    /** The call throws, and changes nothing. */
    void stateRefused(String what, PictureFile x, Runnable call) {
        String before = Shot.of(x);
        stateDue(what, call);
        dueText(what + " left", Shot.of(x), before);
    }

    void argumentRefused(String what, PictureFile x, Runnable call) {
        String before = Shot.of(x);
        argumentDue(what, call);
        dueText(what + " left", Shot.of(x), before);
    }

    void indexRefused(String what, PictureFile x, Runnable call) {
        String before = Shot.of(x);
        indexDue(what, call);
        dueText(what + " left", Shot.of(x), before);
    }

    /** look(0) to look(7), side by side. */
    void looks(String what, PictureFile x, int... want) {
        for (int i = 0; i < want.length; i++) {
            due(what + ": look(" + i + ")", x.look(i), want[i]);
        }
    }

    /** The answer of read() and where the fault was. */
    void faultDue(String what, PictureFile x, int kind, int page, int tag, int strip) {
        due(what + ": read()", x.read(), -kind);
        due(what + ": fault(0)", x.fault(0), page);
        due(what + ": fault(1)", x.fault(1), tag);
        due(what + ": fault(2)", x.fault(2), strip);
        due(what + ": look(6)", x.look(6), 0);
        due(what + ": look(7)", x.look(7), 0);
        indexDue(what + ": of(0, 0)", () -> x.of(0, 0));
    }

    void end(String name) {
        System.out.println(name + ": " + checked + " answers"
                + (sentences == 0 ? "" : " for " + sentences + " sentences")
                + ", " + wrong + " not as due");
        if (wrong != 0 || checked == 0) {
            System.exit(1);
        }
    }
}
