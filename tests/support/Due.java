import java.util.List;
import java.util.function.Supplier;

/** What the tests share: a count of wrong answers, and what a refused call must leave as it was. */
final class Due {
    private static int wrong = 0;
    private static int asked = 0;

    private Due() {
    }

    /** The call has to answer what is due. */
    static void is(String call, Object due, Supplier<Object> it) {
        equal(call, due, answerOf(it));
    }

    static void equal(String call, Object due, Object got) {
        equal(() -> call, due, got);
    }

    /** For many answers: what is called is written only if one is wrong. */
    static void equal(Supplier<String> call, Object due, Object got) {
        asked++;
        if (!got.equals(due)) {
            wrong++;
            System.out.println(call.get() + " answered " + got + ", due is " + due);
        }
    }

    /** The call has to throw just this exception, and to change nothing. */
    static void isThrown(Watched x, String call, Class<?> due, Supplier<Object> it) {
        is(call, "throws." + due.getSimpleName(), it);
        lastChangedNothing(x, call);
    }

    /** What an object tells and does is the same with its last call and without it. */
    static void lastChangedNothing(Watched x, String call) {
        sameAfter(call, x.callsBut(1), x.callsBut(0), x.boxes());
    }

    static void sameAfter(String call, List<Call> due, List<Call> got, int boxes) {
        asked++;
        int room = Watched.MOST_CALLS - Math.max(due.size(), got.size());
        String[] before = Picture.of(due, boxes, room).split("\n");
        String[] after = Picture.of(got, boxes, room).split("\n");
        for (int part = 0; part < before.length; part++) {
            if (!before[part].equals(after[part])) {
                wrong++;
                System.out.println(call + " changed what is told:\n  due is      " + before[part]
                    + "\n  answered is " + after[part]);
                return;
            }
        }
    }

    static Object answerOf(Supplier<Object> it) {
        try {
            return it.get();
        } catch (RuntimeException e) {
            return "throws." + e.getClass().getSimpleName();
        }
    }

    static void end() {
        System.out.println(asked + " answers, " + wrong + " not as due");
        if (wrong != 0) System.exit(1);
    }

    static int boxesOf(Watched x) {
        for (int box = 0; box < 60; box++) {
            try {
                x.of(box, 0);
            } catch (IndexOutOfBoundsException e) {
                return box;
            }
        }
        return 60;
    }

    /** A box of the same told and true weight with all its papers. */
    static int cleared(Watched x, int weight, int port, int kind, int stack) {
        int box = x.box(weight, weight, port, kind, stack);
        for (int paper = 0; paper < 3; paper++) x.paper(box, paper);
        return box;
    }
}
