/** 'Exceptions' in the terms: which one stands for what, the order of several, and that nothing changes by them. */
public final class EdgesExceptions {
    /** Boxes everywhere, a hatch that is open, jams, plugs, papers, tanks, orders of each kind, a port left out. */
    private static final String FULL_OF_THINGS = """
        bounds(390, 50, 800); tank(0, 20); tank(4, 30); skip(3); jam(1, 9); plug(502); plug(512)
        stow(10, 9, PLAIN, 202); stow(8, 2, DANGER, 203); stow(10, 4, COLD, 502); crane(0, 0, 4, 3); crane(1, 2, 5, 1)
        order(OPEN, 4, 0); pass(1); stow(9, 2, DANGER, 410)
        ready(10, 5, PLAIN, 0); box(12, 30, 5, PLAIN, 0); ready(16, 6, PLAIN, 1); box(20, 20, 0, COLD, 2); paper(7, 1)
        box(7, 7, 3, 4, 3); box(1, 1, 9, PLAIN, 3); box(1, 1, 9, PLAIN, 3); box(1, 1, 9, PLAIN, 3)
        order(LOAD, 4, 212); order(LOAD, 5, 222); order(LAND, 0, 0); order(LAND, 1, 4); order(SHIFT, 3, 420)
        order(SHUT, 4, 0); order(OPEN, 3, 0); order(LOAD, 6, 203)
        """;
    private static final String OUT = """
        plug(-1) plug(4) plug(30) plug(524) plug(530) plug(600) plug(MIN) plug(MAX)
        tank(-1, 5) tank(6, 5) tank(MIN, 5) tank(MAX, 5) tank(6, 100) tank(-1, -1)
        jam(-1, 5) jam(6, 5) jam(MIN, 5) jam(MAX, 5) jam(6, 51) jam(-1, 0)
        crane(-1, 0, 5, 1) crane(2, 0, 5, 1) crane(MIN, 0, 5, 1) crane(MAX, 0, 5, 1) crane(2, 3, 2, 1) crane(2, 0, 6, 5)
        box(5, 5, -1, PLAIN, 5) box(5, 5, 10, PLAIN, 5) box(5, 5, 5, PLAIN, -1) box(5, 5, 5, PLAIN, 10)
        box(0, 0, 10, 5, 5) box(41, 41, 5, -1, 10) box(40, 5, 10, PLAIN, 3) box(1, 1, -1, PLAIN, 3)
        paper(-1, 0) paper(12, 0) paper(60, 0) paper(MIN, 0) paper(MAX, 0) paper(0, -1) paper(0, 3) paper(0, MIN) paper(0, MAX)
        skip(-1) skip(0) skip(9) skip(10) skip(MIN) skip(MAX)
        order(LOAD, -1, 2) order(LOAD, 12, 2) order(LAND, 12, 2) order(SHIFT, 12, 2) order(LOAD, 0, 4) order(LOAD, 0, 600)
        order(SHIFT, 0, 30) order(SHIFT, 0, -1) order(LAND, 0, 10) order(LAND, 0, -1) order(OPEN, 6, 0) order(OPEN, -1, 0)
        order(SHUT, 6, 0) order(SHUT, MIN, 0) order(LAND, MAX, MAX) order(LOAD, MIN, MIN) order(SHIFT, MAX, MIN)
        drop(-1) drop(8) drop(20) drop(MIN) drop(MAX)
        of(-1, 0) of(12, 0) of(60, 7) of(MIN, -1) of(MAX, 0)
        at(-1) at(4) at(30) at(524) at(600) at(MIN) at(MAX)
        inYard(-1, 0) inYard(10, 0) inYard(0, -1) inYard(MIN, MIN) inYard(MAX, 0) inYard(0, MIN)
        hatch(-1) hatch(6) hatch(MIN) hatch(MAX)
        dig(-1) dig(12) dig(60) dig(MIN) dig(MAX)
        can(-1, 0) can(8, 0) can(0, -1) can(0, 2) can(MIN, 0) can(MAX, 0) can(0, MIN) can(0, MAX)
        may(-1, 2) may(12, 2) may(0, -1) may(0, 4) may(0, 600) may(MIN, 2) may(MAX, 2) may(0, MIN) may(0, MAX)
        """;
    private static final String ARGUMENT = """
        bounds(-1, 50, 800) bounds(2001, 50, 800) bounds(390, -1, 800) bounds(390, 2001, 800) bounds(390, 50, -1)
        bounds(390, 50, 10000) bounds(MIN, 0, 0) bounds(0, MAX, 0) bounds(0, 0, MIN)
        tank(0, -1) tank(5, 100) tank(0, MIN) tank(0, MAX)
        jam(0, 0) jam(5, 51) jam(0, -1) jam(0, MIN) jam(0, MAX)
        crane(0, -1, 5, 1) crane(0, 0, 6, 1) crane(1, 3, 2, 1) crane(1, 6, 6, 1) crane(0, 0, 5, 0) crane(0, 0, 5, 5)
        crane(0, MIN, 5, 1) crane(0, 0, MAX, 1) crane(0, 0, 5, MIN) crane(1, 0, 5, MAX) crane(1, MAX, MIN, 1)
        box(0, 5, 5, PLAIN, 5) box(41, 5, 5, PLAIN, 5) box(5, 0, 5, PLAIN, 5) box(5, 41, 5, PLAIN, 5) box(5, 5, 5, -1, 5)
        box(5, 5, 5, 5, 5) box(MIN, 5, 5, PLAIN, 5) box(5, MAX, 5, PLAIN, 5) box(5, 5, 5, MIN, 5)
        box(41, 5, 5, PLAIN, 3) box(5, 0, 5, PLAIN, 3) box(5, 5, 5, 5, 3)
        order(-1, 0, 2) order(5, 0, 2) order(MIN, 0, 2) order(MAX, 0, 2) order(5, 99, -1)
        pass(0) pass(-1) pass(25) pass(MIN) pass(MAX)
        of(0, -1) of(0, 7) of(11, MIN) of(11, MAX)
        moment(-1) moment(7) moment(MIN) moment(MAX) momentAnew(-1) momentAnew(7) momentAnew(MIN) momentAnew(MAX)
        """;
    private static final String STATE = """
        plug(502) box(5, 5, 5, PLAIN, 3) box(22, 5, 5, PLAIN, 1) box(40, 40, 0, PLAIN, 2) skip(3) leave() dig(4) dig(11)
        """;

    public static void main(String[] args) {
        refused("IndexOutOfBoundsException: there is no such box, bay, slot, stack, crane, port, paper or order", OUT, "OUT");
        refused("IllegalArgumentException: another argument is out of its range", ARGUMENT, "ARGUMENT");
        refused("IllegalStateException: as the method tells", STATE, "STATE");
        twentyOrders();
        sixtyBoxes();
        lastHour();
        portNine();
        notAhead();
        Due.end();
    }

    private static void refused(String sentence, String calls, String due) {
        for (String call : calls.strip().split("(?<=\\))\\s+")) {
            Script.run(sentence + "; a call that throws an exception changes nothing", FULL_OF_THINGS + call + " = " + due);
        }
    }

    private static void twentyOrders() {
        Script.run("If several apply, the one that is named first in the throws clause is thrown: order", FULL_OF_THINGS + """
            order(OPEN, 0, 0); order(OPEN, 0, 0); order(OPEN, 0, 0); order(OPEN, 0, 0); order(OPEN, 0, 0); order(OPEN, 0, 0)
            order(OPEN, 0, 0); order(OPEN, 0, 0); order(OPEN, 0, 0); order(OPEN, 0, 0); order(OPEN, 0, 0); order(OPEN, 0, 0) = 20
            order(5, 0, 2) = ARGUMENT; order(-1, 12, 2) = ARGUMENT; order(5, 0, 4) = ARGUMENT
            order(LOAD, 12, 2) = OUT; order(LOAD, 0, 4) = OUT; order(LAND, 0, 10) = OUT; order(SHIFT, 0, 30) = OUT
            order(OPEN, 6, 0) = OUT; order(SHUT, -1, 0) = OUT
            order(LOAD, 4, 2) = STATE; order(LAND, 0, 2) = STATE; order(SHIFT, 0, 2) = STATE; order(OPEN, 0, 0) = STATE
            order(SHUT, 0, 0) = STATE
            drop(19) = 19; order(SHUT, 0, 0) = 20; drop(20) = OUT; can(20, 0) = OUT
            """);
    }

    private static void sixtyBoxes() {
        Script s = new Script("If several apply, the one that is named first in the throws clause is thrown: box");
        for (int box = 0; box < 40; box++) s.due("" + box, "box", 5, 5, 9, 0, box / 4);
        s.play("box(5, 5, 9, PLAIN, 0) = STATE; box(5, 5, 10, PLAIN, 0) = OUT; box(5, 5, 9, 5, 0) = ARGUMENT; leave() = 1");
        for (int box = 40; box < 60; box++) s.due("" + box, "box", 5, 5, 9, 0, box % 10);
        s.play("""
            box(5, 5, 9, PLAIN, 0) = STATE; box(40, 5, 9, PLAIN, 0) = STATE
            box(5, 5, -1, PLAIN, 0) = OUT; box(5, 5, 10, PLAIN, 0) = OUT; box(5, 5, 9, PLAIN, -1) = OUT; box(5, 5, 9, PLAIN, 10) = OUT
            box(0, 5, 10, PLAIN, 0) = OUT; box(5, 41, 9, PLAIN, 10) = OUT; box(5, 5, 10, 5, 0) = OUT
            box(0, 5, 9, PLAIN, 0) = ARGUMENT; box(41, 5, 9, PLAIN, 0) = ARGUMENT; box(5, 0, 9, PLAIN, 0) = ARGUMENT
            box(5, 41, 9, PLAIN, 0) = ARGUMENT; box(5, 5, 9, -1, 0) = ARGUMENT; box(5, 5, 9, 5, 0) = ARGUMENT
            """).end();
    }

    private static void lastHour() {
        Script s = new Script("If several apply, the one that is named first in the throws clause is thrown: pass");
        s.play(FULL_OF_THINGS);
        for (int i = 0; i < 41; i++) s.due(null, "pass", i == 40 ? 14 : 24);
        s.play("""
            order(OPEN, 0, 0); order(SHUT, 0, 0)
            hour() = 979; pass(22) = STATE; pass(24) = STATE; pass(25) = ARGUMENT; pass(0) = ARGUMENT; pass(MAX) = ARGUMENT
            pass(20) = 2; hour() = 999; pass(2) = STATE; pass(1) = 0; pass(1) = STATE; pass(25) = ARGUMENT; pass(-1) = ARGUMENT
            """).end();
    }

    private static void portNine() {
        Script s = new Script("leave throws IllegalStateException if she is at the port 9; skip IndexOutOfBoundsException if it is 9");
        s.play("stow(10, 9, PLAIN, 202); tank(0, 7)");
        for (int port = 1; port <= 9; port++) s.due("" + port, "leave");
        s.play("""
            order(SHIFT, 0, 302); order(LAND, 0, 4); ready(4, 9, PLAIN, 4)
            leave() = STATE; skip(9) = OUT; skip(0) = OUT; skip(8) = STATE; skip(1) = STATE; skip(10) = OUT
            order(OPEN, 0, 0); pass(1) = 2; leave() = STATE; bars() = 49; port() = 9
            """).end();
    }

    private static void notAhead() {
        Script.run("skip throws IndexOutOfBoundsException if there is no such port, or it is 0 or 9, IllegalStateException if it is not ahead", """
            skip(2) = 0; skip(8) = 0; box(5, 5, 3, PLAIN, 0); box(5, 5, 2, PLAIN, 1); leave() = 1; leave() = 3; stow(10, 5, PLAIN, 2)
            box(5, 5, 2, PLAIN, 0); box(5, 5, 8, PLAIN, 1); box(5, 5, 3, PLAIN, 2); order(SHIFT, 2, 12)
            skip(0) = OUT; skip(9) = OUT; skip(1) = STATE; skip(2) = STATE; skip(3) = STATE; skip(8) = STATE
            skip(4) = 0; skip(4) = STATE; skip(5) = 1; of(2, 1) = 6; of(3, 1) = 2; of(4, 1) = 8; of(5, 1) = 3
            """);
    }
}
