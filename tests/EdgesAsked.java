/** The boundary cases of the promises 14 to 22, 26 and 27, and of questions in all. */
public final class EdgesAsked {
    private static final int[] FAR = {Integer.MIN_VALUE, Integer.MIN_VALUE + 1, -60, -1, Integer.MAX_VALUE - 1, Integer.MAX_VALUE};

    public static void main(String[] args) {
        hourPortAndCost();
        ofWhat();
        ofHowManyLieOnIt();
        ofOutOfRange();
        at();
        inYard();
        inYardOutOfRange();
        hatch();
        hatchOutOfRange();
        momentOutOfRange();
        momentAnewIsTheSame();
        canOutOfRange();
        canChangesNothing();
        mayOfItsOwnSlot();
        mayWhereverItIs();
        mayWithoutPapersAndPorts();
        mayOutOfRange();
        questionsChangeNothing();
        lastCall();
        Due.end();
    }

    private static void hourPortAndCost() {
        Script.run("hour, port, cost: at first, and after hours and ports", """
            hour() = 0; port() = 0; cost() = 0
            pass(24); hour() = 24; port() = 0; cost() = 600
            leave() = 1; hour() = 24; port() = 1; cost() = 600
            pass(0) = ARGUMENT; hour() = 24; cost() = 600
            order(OPEN, 0, 0); hour() = 24; cost() = 600; pass(2) = 1; hour() = 26; cost() = 660
            """);
    }

    private static void ofWhat() {
        Script.run("of: 0 its weight as it is told, 1 its port, 2 its kind, 3 whether it is held, 4 YARD to GONE, 5 its stack or slot", """
            box(12, 34, 7, 3, 6)
            of(0, 0) = 12; of(0, 1) = 7; of(0, 2) = 3; of(0, 3) = 1; of(0, 4) = YARD; of(0, 5) = 6; of(0, 6) = 0
            papers(0); of(0, 3) = 0
            order(LOAD, 0, 0); order(LOAD, 0, 512); pass(1) = 1
            of(0, 0) = 34; of(0, 1) = 7; of(0, 2) = 3; of(0, 3) = 0; of(0, 4) = SHIP; of(0, 5) = 512; of(0, 6) = 0
            order(LAND, 0, 0); pass(1) = 1; of(0, 4) = YARD; of(0, 5) = 0; leave() = 1
            of(0, 0) = 34; of(0, 1) = 7; of(0, 2) = 3; of(0, 3) = 0; of(0, 4) = GONE; of(0, 5) = NONE; of(0, 6) = 0
            """);
        Script.run("of: 5 its ... slot: the slot 0", """
            order(OPEN, 0, 0); pass(1); stow(5, 5, PLAIN, 0); of(0, 4) = SHIP; of(0, 5) = 0
            """);
    }

    private static void ofHowManyLieOnIt() {
        Script.run("of: 6 how many boxes lie on it: in the yard", """
            box(5, 5, 5, PLAIN, 0); of(0, 6) = 0; box(5, 5, 5, PLAIN, 0); of(0, 6) = 1; of(1, 6) = 0
            box(5, 5, 5, PLAIN, 1); box(5, 5, 5, PLAIN, 0); box(5, 5, 5, PLAIN, 0)
            of(0, 6) = 3; of(1, 6) = 2; of(3, 6) = 1; of(4, 6) = 0; of(2, 6) = 0
            papers(4); order(LOAD, 4, 2); pass(1) = 1; of(0, 6) = 2; of(3, 6) = 0
            """);
        Script.run("of: 6 ... on the ship in the tier right above it (a hatch lies between the tiers 1 and 2)", """
            order(OPEN, 3, 0); pass(1)
            stow(5, 5, PLAIN, 310); of(0, 6) = 0; stow(5, 5, PLAIN, 311); of(0, 6) = 1; of(1, 6) = 0
            order(SHUT, 3, 0); pass(1); stow(5, 5, PLAIN, 312); of(0, 6) = 1; of(1, 6) = 0; of(2, 6) = 0
            stow(5, 5, PLAIN, 313); of(0, 6) = 1; of(1, 6) = 0; of(2, 6) = 1; of(3, 6) = 0
            stow(5, 5, PLAIN, 322); stow(5, 5, PLAIN, 302); of(0, 6) = 1; of(2, 6) = 1; of(4, 6) = 0
            order(LAND, 3, 0); pass(1) = 1; of(2, 6) = 0
            """);
    }

    private static void ofOutOfRange() {
        Script s = new Script("of throws IndexOutOfBoundsException if there is no such box");
        s.play("of(0, 0) = OUT; of(0, 7) = OUT; box(5, 5, 5, PLAIN, 0); of(0, 0) = 5; of(1, 0) = OUT; of(1, 7) = OUT; of(1, -1) = OUT");
        for (int bad : FAR) s.due("OUT", "of", bad, 0).due("OUT", "of", bad, 7).due("ARGUMENT", "of", 0, bad);
        s.play("of(0, -1) = ARGUMENT; of(0, 7) = ARGUMENT; of(0, 6) = 0; of(0, 8) = ARGUMENT; of(0, 100) = ARGUMENT").end();
    }

    private static void at() {
        Script.run("at: returns the box; NONE if it is empty", """
            at(202) = NONE; stow(5, 5, PLAIN, 202); at(202) = 0; at(203) = NONE; at(212) = NONE; at(102) = NONE; at(201) = NONE
            stow(5, 5, PLAIN, 203); at(202) = 0; at(203) = 1
            order(SHIFT, 1, 523); order(SHIFT, 1, 522); pass(1) = 1; at(522) = 1; at(203) = NONE
            order(LAND, 0, 0); pass(1) = 1; at(202) = NONE; leave() = 1; at(522) = 1
            """);
    }

    private static void inYard() {
        Script.run("inYard: place: 0 for the lowest one; NONE if there are not so many", """
            inYard(0, 0) = NONE; inYard(9, 3) = NONE; inYard(9, 4) = NONE
            box(5, 5, 5, PLAIN, 9); inYard(9, 0) = 0; inYard(9, 1) = NONE; inYard(8, 0) = NONE
            box(5, 5, 5, PLAIN, 0); box(5, 5, 5, PLAIN, 0); inYard(0, 0) = 1; inYard(0, 1) = 2; inYard(0, 2) = NONE
            box(5, 5, 5, PLAIN, 0); box(5, 5, 5, PLAIN, 0); inYard(0, 3) = 4; inYard(0, 4) = NONE; inYard(0, 5) = NONE
            inYard(0, 100) = NONE; inYard(0, MAX) = NONE; inYard(8, 4) = NONE
            papers(4); order(LOAD, 4, 2); pass(1) = 1; inYard(0, 3) = NONE; inYard(0, 2) = 3
            """);
        Script s = new Script("inYard: places far above the last stack").play("box(5, 5, 5, PLAIN, 1); box(5, 5, 5, PLAIN, 9)");
        for (int place = 4; place < 45; place++) s.due("-1", "inYard", 0, place).due("-1", "inYard", 9, place);
        s.due("-1", "inYard", 0, 1 << 30).due("-1", "inYard", 1, 1 << 30).due("-1", "inYard", 9, Integer.MAX_VALUE).end();
    }

    private static void inYardOutOfRange() {
        Script s = new Script("inYard throws IndexOutOfBoundsException if there is no such stack, or place is below 0");
        s.play("box(5, 5, 5, PLAIN, 0); box(5, 5, 5, PLAIN, 9); inYard(10, 0) = OUT; inYard(10, -1) = OUT; inYard(1, -1) = OUT");
        for (int bad : FAR) s.due("OUT", "inYard", bad, 0);
        for (int i = 0; i < 4; i++) s.due("OUT", "inYard", 0, FAR[i]).due("OUT", "inYard", 9, FAR[i]).due("OUT", "inYard", FAR[i], FAR[i]);
        s.end();
    }

    private static void hatch() {
        Script.run("hatch: returns 1 if it is open, and 2 if it is jammed, together", """
            hatch(3) = 0; jam(3, 2); hatch(3) = 2; hatch(2) = 0; hatch(4) = 0
            order(OPEN, 4, 0); pass(1); hatch(4) = 1; hatch(3) = 2; jam(4, 1); hatch(4) = 3; pass(1); hatch(3) = 0; hatch(4) = 1
            """);
    }

    private static void hatchOutOfRange() {
        Script s = new Script("hatch throws IndexOutOfBoundsException if there is no such bay").play("hatch(5) = 0; hatch(6) = OUT");
        for (int bad : FAR) s.due("OUT", "hatch", bad);
        s.end();
    }

    private static void momentOutOfRange() {
        for (String name : new String[] {"moment", "momentAnew"}) {
            Script s = new Script(name + " throws IllegalArgumentException if what is out of range").play("tank(5, 1)");
            s.due("5", name, 0).due("0", name, 6).due("-1", name, 1).due("-5", name, 5).due("ARGUMENT", name, 7);
            for (int bad : FAR) s.due("ARGUMENT", name, bad);
            s.end();
        }
    }

    private static void momentAnewIsTheSame() {
        Script s = new Script("momentAnew: tells the same, box by box from nothing");
        s.play("crane(0, 0, 5, 4); tank(1, 9); box(10, 40, 9, PLAIN, 0); papers(0); order(LOAD, 0, 502); pass(1)");
        String[] steps = {"order(SHIFT, 0, 2); pass(1)", "order(SHIFT, 0, 322); pass(1)", "tank(1, 99)", "tank(1, 0)",
            "stow(5, 9, PLAIN, 202)", "order(LAND, 0, 3); pass(1)", "leave() = 1", "order(SHIFT, 1, 422); pass(1) = 1"};
        int[][] dues = {{-200 - 27, -40}, {40 - 27, 40}, {40 - 297, 40}, {40, 40}, {35, 35}, {-5, -5}, {-5, -5}, {15, 5}};
        for (int i = 0; i < steps.length; i++) {
            s.play(steps[i]);
            for (String name : new String[] {"moment", "momentAnew"}) {
                s.due("" + dues[i][0], name, 0).due("" + dues[i][1], name, 6);
            }
        }
        s.play("moment(4) = -20; momentAnew(4) = -20; moment(5) = 5; momentAnew(5) = 5; moment(1) = -5; momentAnew(1) = -5").end();
    }

    private static void canOutOfRange() {
        Script s = new Script("can throws IndexOutOfBoundsException if there is no such order or crane");
        s.play("can(0, 0) = OUT; order(OPEN, 0, 0); order(SHUT, 0, 0); can(0, 0) = true; can(1, 1) = false; can(2, 0) = OUT; can(0, 2) = OUT");
        s.play("can(2, 2) = OUT; can(20, 0) = OUT; can(19, 1) = OUT; drop(0); can(1, 0) = OUT; can(0, 0) = false");
        for (int bad : FAR) s.due("OUT", "can", bad, 0).due("OUT", "can", 0, bad).due("OUT", "can", bad, bad);
        s.end();
    }

    private static void canChangesNothing() {
        Script.run("can: whether a crane could do an order now, also one with no lift left or behind others", """
            crane(0, 0, 5, 1); crane(1, 0, 5, 1)
            order(OPEN, 0, 0); order(OPEN, 1, 0); order(OPEN, 2, 0); order(OPEN, 3, 0)
            can(3, 0) = true; can(2, 1) = true; can(3, 1) = true; pass(1) = 2; can(0, 0) = true; can(1, 1) = true
            hatch(2) = 0; hatch(3) = 0; orders() = 2
            """);
    }

    private static void mayOfItsOwnSlot() {
        Script.run("may: by all but ... where it is now, as if it were not on the ship", """
            stow(10, 5, 4, 202); stow(10, 5, 4, 203)
            may(0, 202) = true; may(1, 203) = true                          # its own slot
            may(0, 203) = false; may(1, 202) = false                        # that of the other one
            may(0, 302) = false; may(0, 212) = true                         # the other one has the class 3
            order(LAND, 1, 0); pass(1) = 1
            may(0, 203) = false                                             # it does not lie under itself
            may(1, 203) = true; may(0, 302) = true; may(0, 102) = true      # it does not clash with itself
            may(1, 302) = false; may(1, 212) = true
            """);
        Script.run("may: ... and the hatch: its own slot under one that is shut", """
            order(OPEN, 2, 0); pass(1); stow(10, 5, PLAIN, 200); stow(10, 5, PLAIN, 201)
            may(0, 200) = true; may(1, 201) = true; may(0, 201) = false; may(0, 202) = false
            order(SHUT, 2, 0); pass(1); may(0, 200) = false; may(1, 201) = false; may(0, 202) = true
            """);
        Script.run("may: ... plugs: its own slot", """
            plug(202); stow(10, 5, COLD, 202); may(0, 202) = true; may(0, 212) = false
            """);
    }

    private static void mayWhereverItIs() {
        Script.run("may: by all but ... where it is now: under others in the yard, under another one on the ship, gone", """
            box(10, 10, 5, PLAIN, 0); box(10, 10, 5, PLAIN, 0); may(0, 2) = true; may(1, 2) = true; may(0, 3) = false
            stow(10, 5, PLAIN, 202); stow(10, 5, PLAIN, 203)
            may(2, 212) = true; may(2, 302) = true; may(2, 303) = false; may(0, 203) = false; may(0, 202) = false
            leave() = 1; of(0, 4) = GONE; may(0, 2) = true; may(0, 202) = false; may(0, 213) = false
            stow(10, 5, PLAIN, 212); may(0, 213) = true
            """);
    }

    private static void mayWithoutPapersAndPorts() {
        Script.run("may: by all but papers, ports", """
            box(10, 10, 0, PLAIN, 0); box(10, 10, 5, PLAIN, 1); papers(1); skip(3); box(10, 10, 3, PLAIN, 2)
            may(0, 2) = true; may(1, 2) = true; may(2, 2) = true
            order(LOAD, 0, 2); order(LOAD, 2, 2); can(0, 0) = false; can(1, 0) = false
            """);
        Script.run("may: ... no reach of a crane matters", """
            box(10, 10, 5, PLAIN, 0); crane(0, 5, 5, 1); crane(1, 5, 5, 1); may(0, 2) = true; may(0, 522) = true
            """);
    }

    private static void mayOutOfRange() {
        Script s = new Script("may throws IndexOutOfBoundsException if there is no such box or slot");
        s.play("may(0, 2) = OUT; box(5, 5, 5, PLAIN, 0); may(0, 2) = true; may(1, 2) = OUT; may(1, 4) = OUT; may(60, 2) = OUT");
        for (int bad : FAR) s.due("OUT", "may", bad, 2).due("OUT", "may", 0, bad).due("OUT", "may", bad, bad);
        s.play("may(0, 4) = OUT; may(0, 30) = OUT; may(0, 600) = OUT; may(0, 523) = false; may(0, 0) = false").end();
    }

    /** Each question is looked at on its own, as a second one could undo what the first one changed. */
    private static void questionsChangeNothing() {
        String[] questions = {"hour()", "port()", "cost()", "orders()", "bars()", "of(0, 0)", "of(0, 1)", "of(1, 2)", "of(1, 3)",
            "of(2, 4)", "of(2, 5)", "of(0, 6)", "at(202)", "at(203)", "at(0)", "inYard(0, 0)", "inYard(0, 9)", "hatch(1)", "hatch(2)",
            "moment(0)", "moment(3)", "moment(6)", "momentAnew(0)", "momentAnew(3)", "momentAnew(6)", "dig(0)", "can(0, 0)", "can(1, 1)",
            "can(2, 0)", "can(3, 0)", "can(4, 0)", "may(0, 202)", "may(0, 212)", "may(2, 3)", "may(2, 203)"};
        for (String question : questions) {
            Script s = new Script("Questions change nothing: " + question).play("""
                stow(10, 5, PLAIN, 202); ready(10, 5, PLAIN, 0); box(12, 20, 5, PLAIN, 0); papers(2); tank(3, 9); jam(2, 2)
                order(OPEN, 1, 0); pass(1)
                order(LOAD, 2, 203); order(LAND, 0, 1); order(SHIFT, 0, 302); order(SHUT, 1, 0); order(OPEN, 5, 0)
                """);
            s.play(question + "; stays");
        }
    }

    private static void lastCall() {
        Script s = new Script("An object is used for at most 512 calls: the last one is answered as well");
        s.play("stow(10, 9, PLAIN, 202)");
        for (int i = 0; i < 84; i++) {
            String to = i % 2 == 0 ? "302" : "202";
            s.due("1", "order", CargoHeel.SHIFT, 0, Integer.parseInt(to)).due("1", "pass", 1).due("0", "at", Integer.parseInt(to));
            s.due("1", "plug", i / 14 * 100 + i % 3 * 10 + 2).due("0", "plug", i / 14 * 100 + i % 3 * 10 + 2).due("0", "bars");
        }
        s.play("cost() = 2975").end();
    }
}
