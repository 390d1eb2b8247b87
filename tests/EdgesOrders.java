/** The boundary cases of 'Orders, cranes' in the terms, and of the promises 10 to 12, 25 and 26. */
public final class EdgesOrders {
    public static void main(String[] args) {
        twentyOrders();
        theTwentiethIsDone();
        orderArguments();
        orderOutOfRange();
        orderThrowsTheFirst();
        drops();
        hours();
        lastHour();
        jamsByTheHour();
        craneZeroIsAhead();
        craneRests();
        firstInTheRow();
        withinReach();
        loads();
        loadsOfPorts();
        loadsOfHeldBoxes();
        lands();
        landsAndShiftsOnlyFromTheShip();
        landsWithNoneAbove();
        shifts();
        shiftsAsIfWithoutIt();
        opensAndShuts();
        costs();
        fees();
        feesAsTheHourEnds();
        weightsThatAreFound();
        weightsFoundInTheirPlace();
        Due.end();
    }

    private static void twentyOrders() {
        Script s = new Script("Orders wait in a row, at most 20").play("orders() = 0; drop(0) = OUT; can(0, 0) = OUT");
        for (int i = 1; i <= 20; i++) s.due("" + i, "order", CargoHeel.SHUT, i % 6, 0).due("" + i, "orders");
        s.play("""
            order(SHUT, 0, 0) = STATE; order(OPEN, 0, 0) = STATE; orders() = 20
            can(19, 0) = false; can(20, 0) = OUT; drop(20) = OUT
            drop(19) = 19; order(OPEN, 1, 0) = 20; can(19, 1) = true
            order(OPEN, 1, 0) = STATE
            pass(1) = 2; orders() = 18                                      # it is opened, then shut
            order(SHUT, 0, 0) = 19; order(SHUT, 0, 0) = 20; order(SHUT, 0, 0) = STATE
            leave() = 1; orders() = 0; order(OPEN, 0, 0) = 1
            """).end();
    }

    private static void theTwentiethIsDone() {
        Script s = new Script("Orders wait in a row, at most 20: the last one is done as ordered").play("ready(10, 5, PLAIN, 3)");
        for (int i = 1; i < 20; i++) s.due("" + i, "order", CargoHeel.SHUT, i % 6, 0);
        s.play("""
            order(LOAD, 0, 512) = 20; can(19, 1) = true; pass(1) = 1; at(512) = 0; orders() = 19
            order(SHIFT, 0, 402) = 20; can(19, 1) = true; pass(1) = 1; at(402) = 0; at(512) = NONE; orders() = 19
            order(LAND, 0, 7) = 20; can(19, 1) = true; pass(1) = 1; inYard(7, 0) = 0; at(402) = NONE; orders() = 19
            order(OPEN, 5, 0) = 20; pass(1) = 2; orders() = 18; hatch(5) = 0                # it is opened, then shut
            """).end();
    }

    private static void orderArguments() {
        Script.run("place: ... it does not matter for OPEN and SHUT", """
            order(OPEN, 2, MIN) = 1; order(SHUT, 2, MAX) = 2; order(OPEN, 2, -1) = 3; order(SHUT, 2, 4) = 4
            order(OPEN, 2, 600) = 5
            pass(1) = 4; hatch(2) = 0; pass(1) = 1; hatch(2) = 1
            """);
        Script.run("place: for LOAD and SHIFT a slot, for LAND a stack", """
            stow(10, 5, PLAIN, 2)
            order(LAND, 0, 9) = 1; order(LAND, 0, 10) = OUT; order(LAND, 0, 0) = 2; order(LAND, 0, -1) = OUT
            order(SHIFT, 0, 10) = 3; order(SHIFT, 0, 9) = OUT; order(LOAD, 0, 10) = 4; order(LOAD, 0, 9) = OUT
            order(LAND, 0, 523) = OUT; order(SHIFT, 0, 523) = 5; order(LOAD, 0, 523) = 6
            order(LAND, 0, MIN) = OUT; order(SHIFT, 0, MIN) = OUT; order(LOAD, 0, MIN) = OUT
            order(LAND, 0, MAX) = OUT; order(SHIFT, 0, MAX) = OUT; order(LOAD, 0, MAX) = OUT
            """);
        Script.run("its: a box, or, for OPEN and SHUT, a bay", """
            order(LOAD, 0, 2) = OUT; order(LAND, 0, 2) = OUT; order(SHIFT, 0, 2) = OUT      # there is no box yet
            order(OPEN, 0, 0) = 1; order(SHUT, 5, 0) = 2; order(OPEN, 6, 0) = OUT; order(SHUT, 6, 0) = OUT
            order(OPEN, -1, 0) = OUT; order(SHUT, -1, 0) = OUT; order(OPEN, MIN, 0) = OUT; order(SHUT, MAX, 0) = OUT
            box(5, 5, 5, PLAIN, 0); box(5, 5, 5, PLAIN, 0); box(5, 5, 5, PLAIN, 0); box(5, 5, 5, PLAIN, 1)
            box(5, 5, 5, PLAIN, 1); box(5, 5, 5, PLAIN, 1); box(5, 5, 5, PLAIN, 2)
            order(LOAD, 6, 2) = 3; order(LAND, 6, 2) = 4; order(SHIFT, 6, 2) = 5
            order(LOAD, 7, 2) = OUT; order(LAND, 7, 2) = OUT; order(SHIFT, 7, 2) = OUT; order(OPEN, 6, 2) = OUT
            order(LOAD, -1, 2) = OUT; order(LAND, MIN, 2) = OUT; order(SHIFT, MAX, 2) = OUT
            leave() = 1
            order(LOAD, 6, 2) = 1; order(LAND, 6, 2) = 2; order(SHIFT, 6, 2) = 3            # a gone one is one, too
            pass(2) = 0; orders() = 3
            """);
    }

    private static void orderOutOfRange() {
        Script.run("order throws IllegalArgumentException if what is out of range", """
            box(5, 5, 5, PLAIN, 0)
            order(-1, 0, 2) = ARGUMENT; order(5, 0, 2) = ARGUMENT; order(MIN, 0, 2) = ARGUMENT; order(MAX, 0, 2) = ARGUMENT
            orders() = 0
            order(LOAD, 0, 2) = 1; order(SHUT, 0, 2) = 2
            """);
    }

    private static void orderThrowsTheFirst() {
        Script s = new Script("order: of several exceptions the one that is named first is thrown");
        s.play("""
            box(5, 5, 5, PLAIN, 0)
            order(5, 1, 2) = ARGUMENT; order(-1, 0, 4) = ARGUMENT; order(5, -1, -1) = ARGUMENT
            """);
        for (int i = 0; i < 20; i++) s.due(null, "order", CargoHeel.SHUT, 0, 0);
        s.play("""
            order(LOAD, 0, 2) = STATE; order(LAND, 0, 2) = STATE; order(SHIFT, 0, 2) = STATE
            order(OPEN, 0, 2) = STATE; order(SHUT, 0, 2) = STATE
            order(5, 0, 2) = ARGUMENT; order(-1, 0, 2) = ARGUMENT; order(5, 1, 4) = ARGUMENT
            order(LOAD, 1, 2) = OUT; order(LOAD, 0, 4) = OUT; order(LAND, 0, 10) = OUT; order(LAND, 1, 0) = OUT
            order(SHIFT, 0, 600) = OUT; order(SHIFT, -1, 2) = OUT; order(OPEN, 6, 2) = OUT; order(SHUT, -1, 2) = OUT
            """).end();
    }

    private static void drops() {
        Script.run("drop: 0 for the first one; returns how many are left", """
            drop(0) = OUT
            order(OPEN, 0, 0); order(OPEN, 1, 0); order(OPEN, 2, 0); order(OPEN, 3, 0)
            drop(4) = OUT; drop(-1) = OUT; drop(MIN) = OUT; drop(MAX) = OUT; drop(20) = OUT
            drop(3) = 3; drop(3) = OUT; drop(0) = 2; orders() = 2
            pass(1) = 2; hatch(0) = 0; hatch(1) = 1; hatch(2) = 1; hatch(3) = 0
            drop(0) = OUT; order(SHUT, 1, 0); drop(1) = OUT; drop(0) = 0; drop(0) = OUT; orders() = 0
            """);
        Script.run("drop: the ones behind it move up", """
            order(OPEN, 0, 0); order(OPEN, 1, 0); order(OPEN, 2, 0)
            drop(1) = 2; crane(0, 2, 2, 1); can(0, 0) = false; can(1, 0) = true; can(2, 0) = OUT
            order(OPEN, 3, 0) = 3; can(2, 0) = false
            """);
    }

    private static void hours() {
        Script.run("hours: 1 to 24", """
            pass(0) = ARGUMENT; pass(25) = ARGUMENT; pass(-1) = ARGUMENT; pass(MIN) = ARGUMENT; pass(MAX) = ARGUMENT
            hour() = 0; cost() = 0
            pass(1) = 0; hour() = 1; cost() = 25; pass(24) = 0; hour() = 25; cost() = 625
            """);
        Script.run("pass ... returns how many lifts were done, in all hours", """
            crane(0, 0, 5, 1); crane(1, 0, 5, 1)
            order(OPEN, 0, 0); order(OPEN, 1, 0); order(OPEN, 2, 0); order(OPEN, 3, 0); order(OPEN, 4, 0)
            pass(2) = 4; orders() = 1; pass(24) = 1; orders() = 0; pass(1) = 0
            """);
    }

    private static void lastHour() {
        Script s = new Script("pass throws IllegalStateException if the hour would be above 1000");
        for (int i = 0; i < 41; i++) s.due("0", "pass", 24);
        s.play("""
            hour() = 984; order(OPEN, 0, 0)
            pass(17) = STATE; pass(24) = STATE; hour() = 984; hatch(0) = 0
            pass(25) = ARGUMENT; pass(0) = ARGUMENT; pass(MIN) = ARGUMENT; pass(MAX) = ARGUMENT  # that one is named first
            pass(15) = 1; hour() = 999; pass(2) = STATE; pass(1) = 0; hour() = 1000; cost() = 25010
            pass(1) = STATE; pass(24) = STATE; pass(0) = ARGUMENT; pass(25) = ARGUMENT; hour() = 1000
            jam(0, 50) = 1050; hatch(0) = 3; order(SHUT, 0, 0) = 1; can(0, 0) = true; drop(0) = 0
            """).end();
        s = new Script("pass: to the hour 1000 at once");
        for (int i = 0; i < 40; i++) s.due("0", "pass", 24);
        s.play("hour() = 960; pass(16) = 0; hour() = 976; pass(24) = 0; hour() = 1000; pass(1) = STATE").end();
    }

    private static void jamsByTheHour() {
        Script.run("In an hour, which has the number that hour() tells ahead of it", """
            pass(3); hour() = 3
            jam(0, 1) = 4; order(OPEN, 0, 0); pass(1) = 0; hour() = 4; pass(1) = 1; hour() = 5
            """);
    }

    private static void craneZeroIsAhead() {
        Script.run("the crane 0, then the crane 1, does lifts, as many as it has", """
            crane(0, 0, 2, 2); crane(1, 0, 5, 1)
            order(OPEN, 5, 0); order(OPEN, 4, 0); order(OPEN, 0, 0); order(SHUT, 0, 0)
            pass(1) = 3; hatch(0) = 0; hatch(5) = 1; hatch(4) = 0; orders() = 1
            """);
        Script.run("the crane 0, then the crane 1: what the crane 0 did lets the crane 1 go on in that hour", """
            ready(10, 5, PLAIN, 0); ready(10, 5, PLAIN, 0)
            crane(0, 0, 2, 1); crane(1, 3, 5, 1)
            order(LOAD, 0, 302); order(LOAD, 1, 202)
            pass(1) = 2; at(302) = 0; at(202) = 1
            """);
        Script.run("the crane 0, then the crane 1: both could do the only order", """
            crane(0, 0, 5, 1); crane(1, 0, 5, 1); order(OPEN, 0, 0); order(SHUT, 0, 0); order(OPEN, 0, 0)
            pass(1) = 2; hatch(0) = 0; orders() = 1
            """);
    }

    private static void craneRests() {
        Script.run("if there is none, the crane rests for that lift", """
            ready(10, 5, PLAIN, 0); ready(10, 5, PLAIN, 0)
            crane(0, 0, 2, 4); crane(1, 3, 5, 4)
            order(LOAD, 0, 202); order(LOAD, 1, 302)
            pass(1) = 1; at(302) = 1; at(202) = NONE; orders() = 1; cost() = 35  # the crane 0 is not asked again
            pass(1) = 1; at(202) = 0; orders() = 0
            pass(1) = 0; cost() = 95
            """);
        Script.run("if there is none, the crane rests: an empty row", "pass(5) = 0; cost() = 125; hour() = 5");
    }

    private static void firstInTheRow() {
        Script.run("for each it looks for the first order in the row that it can do now", """
            crane(0, 0, 5, 1); crane(1, 0, 0, 1)
            ready(10, 5, PLAIN, 0); ready(10, 5, PLAIN, 1); ready(10, 5, PLAIN, 2)
            order(LOAD, 1, 203); order(LOAD, 2, 202); order(LOAD, 0, 202)
            pass(1) = 1; at(202) = 2; orders() = 2                          # the second, as the first cannot be done
            pass(1) = 1; at(203) = 1; orders() = 1                          # then the first
            pass(2) = 0; orders() = 1
            """);
        Script.run("for each it looks for the first order: from the front again for each lift", """
            crane(0, 0, 5, 3); crane(1, 0, 0, 1)
            order(SHUT, 1, 0); order(SHUT, 2, 0); order(OPEN, 2, 0); order(OPEN, 1, 0)
            pass(1) = 3; hatch(2) = 0; hatch(1) = 1; orders() = 1
            pass(1) = 1; hatch(1) = 0
            """);
        Script.run("does it; ... the order is gone", """
            order(OPEN, 3, 0); order(OPEN, 4, 0); orders() = 2; pass(1) = 2; orders() = 0; pass(1) = 0; hatch(3) = 1
            """);
    }

    private static void withinReach() {
        Script.run("within its reach (the bays of all slots and hatches in it; a LAND of the slot in which the box is)", """
            stow(10, 5, PLAIN, 202); ready(10, 5, PLAIN, 0)
            crane(0, 1, 2, 1); crane(1, 2, 4, 1)
            order(LOAD, 1, 2) = 1; can(0, 0) = false; can(0, 1) = false
            order(LOAD, 1, 102) = 2; can(1, 0) = true; can(1, 1) = false
            order(LOAD, 1, 212) = 3; can(2, 0) = true; can(2, 1) = true
            order(LOAD, 1, 402) = 4; can(3, 0) = false; can(3, 1) = true
            order(LOAD, 1, 502) = 5; can(4, 0) = false; can(4, 1) = false
            order(LAND, 0, 9) = 6; can(5, 0) = true; can(5, 1) = true
            order(SHIFT, 0, 2) = 7; can(6, 0) = false; can(6, 1) = false
            order(SHIFT, 0, 102) = 8; can(7, 0) = true; can(7, 1) = false
            order(SHIFT, 0, 212) = 9; can(8, 0) = true; can(8, 1) = true
            order(SHIFT, 0, 402) = 10; can(9, 0) = false; can(9, 1) = true
            order(SHIFT, 0, 502) = 11; can(10, 0) = false; can(10, 1) = false
            order(OPEN, 0, 0) = 12; can(11, 0) = false; can(11, 1) = false
            order(OPEN, 1, 0) = 13; can(12, 0) = true; can(12, 1) = false
            order(OPEN, 4, 0) = 14; can(13, 0) = false; can(13, 1) = true
            order(OPEN, 5, 0) = 15; can(14, 0) = false; can(14, 1) = false
            """);
        Script.run("within its reach (the bays of all slots ...): a shift from out of it, and a landing", """
            stow(10, 5, PLAIN, 202); stow(10, 5, PLAIN, 502)
            crane(0, 3, 4, 1); crane(1, 0, 1, 1)
            order(SHIFT, 0, 302) = 1; can(0, 0) = false; order(SHIFT, 0, 102) = 2; can(1, 1) = false
            order(SHIFT, 1, 402) = 3; can(2, 0) = false
            order(LAND, 0, 3) = 4; can(3, 0) = false; can(3, 1) = false     # the stack has no say in it
            order(LAND, 1, 3) = 5; can(4, 0) = false; can(4, 1) = false; pass(1) = 0
            crane(0, 2, 2, 1); can(3, 0) = true; can(0, 0) = false; can(4, 0) = false
            """);
        Script.run("within its reach (... hatches in it): to shut one", """
            order(OPEN, 2, 0); pass(1); order(SHUT, 2, 0)
            crane(0, 0, 1, 1); crane(1, 3, 5, 1); can(0, 0) = false; can(0, 1) = false; pass(1) = 0
            crane(1, 2, 2, 1); can(0, 1) = true; pass(1) = 1; hatch(2) = 0
            """);
    }

    private static void loads() {
        Script.run("LOAD: the box lies on top of its stack", """
            ready(10, 5, PLAIN, 0); ready(10, 5, PLAIN, 0); ready(10, 5, PLAIN, 0); ready(10, 5, PLAIN, 0)
            order(LOAD, 0, 2); order(LOAD, 1, 12); order(LOAD, 2, 22); order(LOAD, 3, 102)
            can(0, 0) = false; can(1, 0) = false; can(2, 0) = false; can(3, 0) = true
            drop(3); pass(1) = 0
            order(LOAD, 3, 102); crane(0, 0, 5, 1); crane(1, 2, 2, 1); pass(1) = 1; can(2, 0) = true; can(1, 0) = false
            """);
        Script.run("LOAD: the box lies on top of its stack: not one on the ship, nor a gone one", """
            ready(10, 5, PLAIN, 0); ready(10, 5, PLAIN, 1)
            order(LOAD, 0, 2); order(LOAD, 0, 12); pass(1) = 1; orders() = 1; can(0, 0) = false; pass(1) = 0; at(12) = NONE
            leave() = 1; order(LOAD, 1, 12); can(0, 0) = false; order(LOAD, 0, 22); can(1, 0) = false; pass(1) = 0
            """);
        Script.run("LOAD: the slot is free and may have it by all that was told; the box is there then", """
            stow(10, 5, PLAIN, 2); ready(10, 5, PLAIN, 0)
            order(LOAD, 1, 2) = 1; can(0, 0) = false; pass(1) = 0; at(2) = 0; drop(0)
            order(LOAD, 1, 12) = 1; can(0, 0) = true; pass(1) = 1
            at(12) = 1; of(1, 4) = SHIP; of(1, 5) = 12; inYard(0, 0) = NONE; moment(0) = -100; moment(6) = -10
            """);
    }

    private static void loadsOfPorts() {
        Script.run("LOAD: ... goes to a port that is still ahead", """
            ready(10, 0, PLAIN, 0); ready(10, 1, PLAIN, 1); ready(10, 9, PLAIN, 2); skip(3); ready(10, 3, PLAIN, 3)
            order(LOAD, 0, 2); order(LOAD, 1, 12); order(LOAD, 2, 22); order(LOAD, 3, 102)
            can(0, 0) = false; can(1, 0) = true; can(2, 0) = true; can(3, 0) = false
            pass(1) = 2; orders() = 2; at(2) = NONE; at(12) = 1; at(22) = 2; at(102) = NONE
            leave() = 1
            ready(10, 1, PLAIN, 0); ready(10, 0, PLAIN, 1); ready(10, 2, PLAIN, 2)
            order(LOAD, 4, 202); order(LOAD, 5, 302); order(LOAD, 6, 402)
            can(0, 0) = false; can(1, 0) = false; can(2, 0) = true; pass(1) = 1; at(402) = 6
            """);
        Script s = new Script("LOAD: ... goes to a port that is still ahead: none is at the port 9");
        for (int port = 1; port <= 9; port++) s.due("" + port, "leave");
        s.play("ready(10, 9, PLAIN, 0); order(LOAD, 0, 2); can(0, 0) = false; pass(1) = 0").end();
    }

    private static void loadsOfHeldBoxes() {
        for (int paper = 0; paper < 3; paper++) {
            Script.run("no held box crosses the quay: the paper " + paper + " is not there", """
                ready(10, 5, PLAIN, 0); stow(10, 5, PLAIN, 2)
                paper(0, %1$d) = true; paper(1, %1$d) = true
                order(LOAD, 0, 12); order(LAND, 1, 0); order(SHIFT, 1, 22)
                can(0, 0) = false; can(0, 1) = false; can(1, 0) = false; can(1, 1) = false; can(2, 0) = true
                pass(2) = 1; at(12) = NONE; at(22) = 1; orders() = 2
                paper(0, %1$d) = false; paper(1, %1$d) = false; can(0, 0) = true; can(1, 0) = true; pass(1) = 2
                """.formatted(paper));
        }
        Script.run("no held box crosses the quay: it has no paper", """
            box(10, 10, 5, PLAIN, 0); order(LOAD, 0, 2); can(0, 0) = false; pass(24) = 0; of(0, 4) = YARD
            """);
    }

    private static void lands() {
        Script.run("LAND: the box lies on top on the ship", """
            ready(10, 5, PLAIN, 0); order(LAND, 0, 1); can(0, 0) = false; pass(1) = 0; inYard(1, 0) = NONE
            leave() = 1; order(LAND, 0, 1); can(0, 0) = false; pass(1) = 0; inYard(1, 0) = NONE; of(0, 4) = GONE
            """);
        Script.run("LAND: ... the stack has room, and may have it; it is there then", """
            stow(10, 5, PLAIN, 22); stow(10, 5, PLAIN, 2)
            box(4, 4, 5, PLAIN, 0); box(5, 5, 5, PLAIN, 1); box(9, 9, 5, PLAIN, 2); box(9, 9, 5, PLAIN, 2)
            box(9, 9, 5, PLAIN, 2); box(9, 9, 5, PLAIN, 2)
            order(LAND, 0, 0) = 1; can(0, 0) = false; order(LAND, 0, 2) = 2; can(1, 0) = false; pass(1) = 0
            order(LAND, 0, 1) = 3; can(2, 0) = true; order(LAND, 0, 3) = 4; can(3, 0) = true
            pass(1) = 1; inYard(1, 1) = 0; of(0, 4) = YARD; of(0, 5) = 1; at(22) = NONE; moment(6) = -10; moment(0) = -50
            drop(0); drop(0); drop(0); orders() = 0; order(LAND, 1, 3); pass(1) = 1; inYard(3, 0) = 1; moment(6) = 0
            """);
        Script.run("LAND: a port that is ahead, or behind her, does not matter", """
            stow(10, 5, PLAIN, 2); order(LAND, 0, 0); can(0, 0) = true; skip(5); can(0, 0) = true; pass(1) = 1
            """);
    }

    /** The number of its stack, or NONE, must not pass for a slot, whether the hatch of the bay 0 is shut or open. */
    private static void landsAndShiftsOnlyFromTheShip() {
        for (String hatch : new String[] {"shut", "open"}) {
            Script s = new Script("LAND: ... on top on the ship; SHIFT: ... as for a LAND: none in the yard, nor gone, " + hatch);
            if (hatch.equals("open")) s.play("order(OPEN, 0, 0); pass(1) = 1");
            for (int stack = 0; stack < 10; stack++) s.play("ready(10, 5, PLAIN, " + stack + ")");
            offTheShip(s, 10);
            s.play("order(SHUT, 0, 0); pass(1); leave() = 1");
            if (hatch.equals("open")) s.play("order(OPEN, 0, 0); pass(1) = 1");
            offTheShip(s, 2);
            s.end();
        }
    }

    private static void offTheShip(Script s, int boxes) {
        for (int box = 0; box < boxes; box++) {
            s.due("1", "order", CargoHeel.LAND, box, (box + 1) % 10).due("0", "can", 0, 0).due("0", "can", 0, 1);
            s.due("2", "order", CargoHeel.SHIFT, box, 302).due("0", "can", 1, 0).due("0", "can", 1, 1);
            s.due("0", "pass", 1).due("1", "drop", 1).due("0", "drop", 0);
        }
    }

    private static void landsWithNoneAbove() {
        Script.run("no box above it: for the tier 0 in 1, for 2 in 3", """
            order(OPEN, 2, 0); pass(1)
            stow(10, 5, PLAIN, 200); order(LAND, 0, 0); can(0, 0) = true; drop(0)
            stow(10, 5, PLAIN, 201); order(LAND, 0, 0); order(LAND, 1, 0); can(0, 0) = false; can(1, 0) = true; pass(1) = 2
            """);
        Script.run("no box above it: ... for 2 in 3", """
            stow(10, 5, PLAIN, 202); order(LAND, 0, 0); can(0, 0) = true; drop(0)
            stow(10, 5, PLAIN, 203); order(LAND, 0, 0); order(LAND, 1, 0); can(0, 0) = false; can(1, 0) = true
            order(SHIFT, 0, 212); can(2, 0) = false
            pass(1) = 2; inYard(0, 0) = 1; inYard(0, 1) = 0
            """);
        Script.run("no box above it: those beside it do not matter", """
            stow(10, 5, PLAIN, 202); stow(10, 5, PLAIN, 212); stow(10, 5, PLAIN, 213); stow(10, 5, PLAIN, 302)
            order(LAND, 0, 0); can(0, 0) = true; order(LAND, 1, 0); can(1, 0) = false
            """);
    }

    private static void shifts() {
        Script.run("SHIFT: the box can be taken as for a LAND, to another slot", """
            stow(10, 5, PLAIN, 202); order(SHIFT, 0, 202) = 1; can(0, 0) = false; pass(1) = 0; orders() = 1
            crane(0, 0, 5, 1); crane(1, 0, 0, 1); order(SHIFT, 0, 212) = 2; can(1, 0) = true; pass(1) = 1; at(202) = NONE; at(212) = 0; of(0, 5) = 212
            moment(6) = 0; pass(1) = 1; at(202) = 0                          # the first one can be done by then
            """);
        Script.run("SHIFT: not a box in the yard, nor a gone one", """
            ready(10, 5, PLAIN, 0); order(SHIFT, 0, 2); can(0, 0) = false; pass(1) = 0
            leave() = 1; order(SHIFT, 0, 2); can(0, 0) = false; pass(1) = 0; at(2) = NONE
            """);
        Script.run("SHIFT: ... papers do not matter, as it does not cross the quay", """
            stow(10, 5, PLAIN, 202); paper(0, 0); paper(0, 1); paper(0, 2); of(0, 3) = 1
            order(SHIFT, 0, 302); can(0, 0) = true; pass(1) = 1; at(302) = 0
            """);
        Script.run("SHIFT: a port that is not ahead does not matter", """
            stow(10, 1, PLAIN, 202); leave() = 1; order(SHIFT, 0, 302); can(0, 0) = true; pass(1) = 1; at(302) = 0
            """);
        Script.run("SHIFT: to a slot that is free", """
            stow(10, 5, PLAIN, 202); stow(10, 5, PLAIN, 302)
            order(SHIFT, 0, 302) = 1; can(0, 0) = false; order(SHIFT, 1, 2); pass(1) = 2; at(302) = 0; at(2) = 1
            """);
    }

    private static void shiftsAsIfWithoutIt() {
        Script.run("SHIFT: ... the ship being without it: it does not lie under itself", """
            stow(10, 5, PLAIN, 202); order(SHIFT, 0, 203); can(0, 0) = false; pass(1) = 0; at(202) = 0
            """);
        Script.run("SHIFT: ... the ship being without it: it does not clash with itself", """
            stow(10, 5, 4, 202); order(SHIFT, 0, 302); can(0, 0) = true; pass(1) = 1; at(302) = 0
            stow(10, 5, 4, 312); order(SHIFT, 0, 202); can(0, 0) = false    # but with another one
            order(SHIFT, 0, 322); can(1, 0) = true
            """);
        Script.run("SHIFT: from under a hatch onto the hatch of another bay, and not onto its own", """
            order(OPEN, 2, 0); pass(1); stow(10, 5, PLAIN, 200)
            order(SHIFT, 0, 202) = 1; can(0, 0) = false; order(SHIFT, 0, 212) = 2; can(1, 0) = false; pass(1) = 0
            order(SHIFT, 0, 220) = 3; can(2, 0) = true; order(SHIFT, 0, 302) = 4; can(3, 0) = true; pass(1) = 2
            at(302) = 0
            """);
    }

    private static void opensAndShuts() {
        Script.run("OPEN and SHUT, if the hatch is not so already, and it can be", """
            order(SHUT, 2, 0); can(0, 0) = false; pass(1) = 0; orders() = 1; drop(0)
            order(OPEN, 2, 0); can(0, 0) = true; pass(1) = 1; hatch(2) = 1
            order(OPEN, 2, 0); can(0, 0) = false; pass(1) = 0; orders() = 1; drop(0)
            order(SHUT, 2, 0); can(0, 0) = true; pass(1) = 1; hatch(2) = 0
            """);
    }

    private static void costs() {
        Script.run("A lift costs 10; each hour at the quay costs 25", """
            pass(1) = 0; cost() = 25
            ready(10, 5, PLAIN, 0); order(LOAD, 0, 202); pass(1) = 1; cost() = 60
            order(SHIFT, 0, 212); pass(1) = 1; cost() = 95
            order(LAND, 0, 0); pass(1) = 1; cost() = 130
            order(OPEN, 2, 0); pass(1) = 1; cost() = 165
            order(SHUT, 2, 0); pass(1) = 1; cost() = 200
            order(SHUT, 2, 0); pass(1) = 0; cost() = 225; drop(0)            # no lift
            pass(24) = 0; cost() = 825
            leave() = 1; cost() = 825; tank(0, 9); jam(0, 1); plug(0); skip(2); cost() = 825
            """);
    }

    private static void fees() {
        Script.run("1 for each box in the yard whose port is not ahead any more", """
            box(5, 5, 1, PLAIN, 0); box(5, 5, 9, PLAIN, 1); pass(1); cost() = 25        # both are ahead
            box(5, 5, 0, PLAIN, 2); pass(1); cost() = 51                                # where she is
            skip(3); box(5, 5, 3, PLAIN, 3); pass(1); cost() = 78                       # left out
            skip(1); pass(1); cost() = 105; of(0, 1) = 2                                # its box goes to the next one
            leave() = 2; cost() = 105; pass(1); cost() = 130                            # all are gone
            box(5, 5, 2, PLAIN, 0); box(5, 5, 1, PLAIN, 0); box(5, 5, 0, PLAIN, 0); box(5, 5, 3, PLAIN, 1)
            box(5, 5, 4, PLAIN, 2); pass(2); cost() = 188
            """);
    }

    private static void feesAsTheHourEnds() {
        Script.run("1 for each box in the yard ..., as the hour ends", """
            stow(5, 1, PLAIN, 2); cost() = 35; leave() = 1
            pass(1); cost() = 60                                            # it is on the ship
            order(LAND, 0, 0); pass(1) = 1; cost() = 96                     # landed in this hour
            pass(3); cost() = 174
            """);
        Script.run("1 for each box in the yard ...: none for one that was loaded in this hour", """
            ready(5, 3, PLAIN, 0); box(5, 5, 0, PLAIN, 1); order(LOAD, 0, 2); pass(1) = 1; cost() = 36
            """);
    }

    private static void weightsThatAreFound() {
        String sentence = "If the true weight of a box differs from the told one, it is found, and told, as the box is"
            + " lifted; then it is seen whether it may be put as ordered by its true weight: if it may not, the box stays"
            + " where it was. In each case the lift is done, and the order is gone: ";
        Script.run(sentence + "6 more", """
            stow(10, 5, PLAIN, 202); box(10, 16, 5, PLAIN, 0) = 1; papers(1); cost() = 35
            of(1, 0) = 10; order(LOAD, 1, 203); can(0, 0) = true
            pass(1) = 1; cost() = 70; orders() = 0; of(1, 0) = 16; of(1, 4) = YARD; of(1, 5) = 0; inYard(0, 0) = 1
            at(203) = NONE; moment(0) = -10; moment(6) = -10
            may(1, 203) = false; order(LOAD, 1, 203); can(0, 0) = false
            """);
        Script.run(sentence + "5 more", """
            stow(10, 5, PLAIN, 202); box(10, 15, 5, PLAIN, 0) = 1; papers(1)
            order(LOAD, 1, 203); pass(1) = 1; at(203) = 1; of(1, 0) = 15; inYard(0, 0) = NONE; moment(0) = -25
            """);
        Script.run(sentence + "much more, on nothing", """
            box(1, 40, 5, PLAIN, 0) = 0; papers(0)
            order(LOAD, 0, 202); pass(1) = 1; at(202) = 0; of(0, 0) = 40; moment(6) = -40
            """);
        Script.run(sentence + "less", """
            stow(10, 5, PLAIN, 202); box(15, 1, 5, PLAIN, 0) = 1; papers(1); box(10, 10, 5, PLAIN, 1) = 2; papers(2)
            order(LOAD, 1, 203); pass(1) = 1; at(203) = 1; of(1, 0) = 1; moment(0) = -11
            order(SHIFT, 1, 212); pass(1) = 1; may(2, 213) = false          # it may have what its true weight may
            """);
        Script.run(sentence + "told too much, it is not lifted", """
            stow(10, 5, PLAIN, 202); box(16, 1, 5, PLAIN, 0) = 1; papers(1)
            order(LOAD, 1, 203); can(0, 0) = false; pass(1) = 0; of(1, 0) = 16; orders() = 1
            """);
    }

    private static void weightsFoundInTheirPlace() {
        Script.run("the box stays where it was: on its stack, though it is too heavy for that by now", """
            stow(10, 5, PLAIN, 202)
            box(3, 3, 5, PLAIN, 0) = 1; papers(1); box(8, 40, 5, PLAIN, 0) = 2; papers(2)
            order(LOAD, 2, 203); order(LOAD, 1, 212); pass(1) = 1; orders() = 1    # it is still on the other one
            inYard(0, 1) = 2; of(2, 5) = 0; of(2, 0) = 40; of(1, 6) = 1; of(1, 0) = 3
            order(LOAD, 2, 302); pass(1) = 2; at(302) = 2; at(212) = 1
            """);
        Script.run("the lift is done: the crane has one less, and the next order is looked for", """
            stow(10, 5, PLAIN, 202); box(10, 16, 5, PLAIN, 0) = 1; papers(1); ready(10, 5, PLAIN, 1)
            crane(0, 0, 5, 1); crane(1, 0, 5, 1)
            order(LOAD, 1, 203); order(LOAD, 2, 203); pass(1) = 2; at(203) = 2; orders() = 0
            """);
        Script.run("it is found ... as the box is lifted: not before, whatever is asked or changed", """
            box(10, 16, 5, PLAIN, 0) = 0; papers(0); order(LOAD, 0, 203); can(0, 0) = false; pass(1) = 0; of(0, 0) = 10
            may(0, 202) = true; skip(5); of(0, 0) = 10; leave() = 1; of(0, 0) = 10
            """);
    }
}
