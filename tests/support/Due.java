/** What the tests share: a count of wrong answers, and a picture of all that an object tells. */
final class Due {
    interface Call {
        Object answer();
    }

    private static int wrong = 0;
    private static int asked = 0;

    private Due() {
    }

    /** The call has to answer what is due. */
    static void is(String call, Object due, Call it) {
        Object got = answerOf(it);
        asked++;
        if (!got.equals(due)) {
            wrong++;
            System.out.println(call + " answered " + got + ", due is " + due);
        }
    }

    /** The call has to throw just this exception, and to change nothing. */
    static void isThrown(CargoHeel x, String call, Class<?> due, Call it) {
        String before = picture(x);
        is(call, "throws." + due.getSimpleName(), it);
        is(call + ": what is told then", before, () -> picture(x));
    }

    static Object answerOf(Call it) {
        try {
            return it.answer();
        } catch (RuntimeException e) {
            return "throws." + e.getClass().getSimpleName();
        }
    }

    static void end() {
        System.out.println(asked + " answers, " + wrong + " not as due");
        if (wrong != 0) System.exit(1);
    }

    static int boxesOf(CargoHeel x) {
        for (int box = 0; box < 60; box++) {
            try {
                x.of(box, 0);
            } catch (IndexOutOfBoundsException e) {
                return box;
            }
        }
        return 60;
    }

    /** Every answer that a question of the face gives. */
    static String picture(CargoHeel x) {
        StringBuilder told = new StringBuilder();
        told.append(x.hour()).append(' ').append(x.port()).append(' ').append(x.cost());
        told.append(' ').append(x.orders()).append(' ').append(x.bars());
        for (int what = 0; what < 7; what++) {
            told.append(' ').append(x.moment(what)).append('=').append(x.momentAnew(what));
        }
        for (int bay = 0; bay < 6; bay++) told.append(" h").append(x.hatch(bay));
        for (int stack = 0; stack < 10; stack++) {
            for (int place = 0; place < 4; place++) told.append(" y").append(x.inYard(stack, place));
        }
        int boxes = boxesOf(x);
        for (int box = 0; box < boxes; box++) {
            told.append("\nbox").append(box);
            for (int what = 0; what < 7; what++) told.append(' ').append(x.of(box, what));
            if (x.of(box, 4) == CargoHeel.SHIP) told.append(" d").append(x.dig(box));
        }
        for (int i = 0; i < 72; i++) {
            int slot = 100 * (i / 12) + 10 * (i / 4 % 3) + i % 4;
            told.append("\nslot").append(slot).append(' ').append(x.at(slot)).append(' ');
            for (int box = 0; box < boxes; box++) told.append(x.may(box, slot) ? '+' : '-');
        }
        for (int order = 0; order < x.orders(); order++) {
            told.append("\norder").append(order).append(x.can(order, 0) ? '+' : '-').append(x.can(order, 1) ? '+' : '-');
        }
        return told.toString();
    }

    /** A box of the same told and true weight with all its papers. */
    static int cleared(CargoHeel x, int weight, int port, int kind, int stack) {
        int box = x.box(weight, weight, port, kind, stack);
        for (int paper = 0; paper < 3; paper++) x.paper(box, paper);
        return box;
    }
}
