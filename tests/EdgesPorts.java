/** The boundary cases of 'Ports' in the terms, and of the promises 9, 13, 15, 23 and 24. */
public final class EdgesPorts {
    public static void main(String[] args) {
        portsInTheirOrder();
        portNine();
        whatCanBeLeftOut();
        leftOutAhead();
        leftOutAll();
        boxesThatGoThere();
        boxesThatComeLater();
        boxesThatAreGone();
        leaveIfHatchesAreShut();
        leaveWithinBounds();
        leaveWithoutItsBoxes();
        ordersWaitNoMore();
        yardIsEmpty();
        allElseStays();
        barsTogether();
        barsAtTheirBounds();
        barsOfEachCut();
        barsOfHeelAlone();
        dig();
        digWithAllOnTop();
        digThrows();
        Due.end();
    }

    private static void portsInTheirOrder() {
        Script s = new Script("The ship calls at the ports 0, 1 and so on, 0 at first; it is at most at 9").play("port() = 0");
        for (int port = 1; port <= 9; port++) s.due("" + port, "leave").due("" + port, "port").due("0", "hour");
        s.play("leave() = STATE; port() = 9; bars() = 32").end();
    }

    private static void portNine() {
        Script s = new Script("At the port 9 she cannot leave any more").play("stow(10, 9, PLAIN, 2)");
        for (int port = 1; port <= 8; port++) s.due("" + port, "leave").due("0", "bars");
        s.play("""
            leave() = 9; bars() = 48; leave() = STATE
            skip(8) = STATE; skip(1) = STATE; skip(9) = OUT; skip(0) = OUT
            order(LAND, 0, 0); pass(1) = 1; bars() = 32; leave() = STATE; inYard(0, 0) = 0; of(0, 4) = YARD
            cost() = 71                                     # two hours, two lifts, and a box that is not ahead
            box(5, 5, 9, PLAIN, 1) = 1; order(LOAD, 0, 2); can(0, 0) = false; pass(1) = 0; cost() = 98
            """).end();
    }

    private static void whatCanBeLeftOut() {
        Script.run("The ports 1 to 8 can be left out", """
            skip(0) = OUT; skip(9) = OUT; skip(-1) = OUT; skip(10) = OUT; skip(MIN) = OUT; skip(MAX) = OUT
            skip(1) = 0; skip(8) = 0; skip(4) = 0
            skip(0) = OUT; skip(9) = OUT
            leave() = 2; skip(0) = OUT; leave() = 3; leave() = 5; leave() = 6; leave() = 7; leave() = 9
            """);
    }

    private static void leftOutAhead() {
        Script.run("as long as they are ahead; skip throws IllegalStateException if it is not ahead", """
            skip(4) = 0; skip(4) = STATE                                    # left out already
            skip(2) = 0; leave() = 1; skip(1) = STATE                       # where she is
            skip(3) = 0; leave() = 5; skip(5) = STATE; skip(1) = STATE; skip(3) = STATE; skip(4) = STATE
            skip(6) = 0; skip(6) = STATE; leave() = 7; skip(7) = STATE; skip(8) = 0; leave() = 9
            """);
        Script.run("as long as they are ahead: the next one", """
            leave() = 1; skip(2) = 0; leave() = 3; skip(4) = 0; leave() = 5
            """);
    }

    private static void leftOutAll() {
        Script s = new Script("The ports 1 to 8 can be left out: all of them").play("stow(5, 1, PLAIN, 2)");
        for (int port = 8; port >= 2; port--) s.due("0", "skip", port);
        s.play("of(0, 1) = 1; skip(1) = 1; of(0, 1) = 9; leave() = 9; bars() = 48").end();
        s = new Script("boxes ... go to the next port behind it: one after the other").play("box(5, 5, 1, PLAIN, 0)");
        for (int port = 1; port <= 8; port++) s.due("1", "skip", port).due("" + (port + 1), "of", 0, 1);
        s.play("leave() = 9").end();
    }

    private static void boxesThatGoThere() {
        Script.run("boxes that go there go to the next port behind it that is not left out, then", """
            box(5, 5, 3, PLAIN, 0); box(5, 5, 4, PLAIN, 1); box(5, 5, 2, PLAIN, 2); stow(5, 3, PLAIN, 2)
            skip(3) = 2; of(0, 1) = 4; of(3, 1) = 4; of(1, 1) = 4; of(2, 1) = 2
            skip(5) = 0; skip(4) = 3; of(0, 1) = 6; of(1, 1) = 6; of(3, 1) = 6; of(2, 1) = 2
            skip(2) = 1; of(2, 1) = 6; skip(8) = 0; skip(7) = 0; skip(6) = 4; of(0, 1) = 9; of(2, 1) = 9; of(3, 1) = 9
            """);
        Script.run("What is left out is no more ahead; its boxes are, as they go to another port", """
            ready(5, 3, PLAIN, 0); skip(3) = 1; order(LOAD, 0, 2); can(0, 0) = true; pass(1) = 1; cost() = 35
            """);
        Script.run("boxes that go there go to the next port: a box of the next port stays on the ship", """
            stow(5, 1, PLAIN, 2); skip(1) = 1; leave() = 2; bars() = 16; leave() = STATE; skip(2) = STATE
            """);
    }

    private static void boxesThatComeLater() {
        Script.run("one that comes for a port that was left out already keeps it", """
            skip(3) = 0; ready(5, 3, PLAIN, 0); of(0, 1) = 3
            order(LOAD, 0, 2); can(0, 0) = false; pass(1) = 0; cost() = 26
            skip(2) = 0; skip(4) = 0; of(0, 1) = 3; skip(3) = STATE; of(0, 1) = 3
            """);
        Script.run("one that comes for a port that is behind her keeps it", """
            leave() = 1; leave() = 2; box(5, 5, 1, PLAIN, 0); box(5, 5, 0, PLAIN, 1); box(5, 5, 2, PLAIN, 2); skip(3) = 0
            of(0, 1) = 1; of(1, 1) = 0; of(2, 1) = 2
            """);
    }

    private static void boxesThatAreGone() {
        Script.run("skip returns how many boxes that are not gone go to another port by that", """
            box(5, 5, 4, PLAIN, 0); box(5, 5, 4, PLAIN, 0); stow(5, 4, PLAIN, 2); leave() = 1
            box(5, 5, 4, PLAIN, 0) = 3; skip(4) = 2; of(2, 1) = 5; of(3, 1) = 5
            leave() = 2; skip(5) = 1; of(2, 1) = 6
            """);
    }

    private static void leaveIfHatchesAreShut() {
        for (int bay = 0; bay < 6; bay++) {
            Script.run("She can leave ... if all hatches are shut: that of the bay " + bay, """
                order(OPEN, %1$d, 0); pass(1) = 1; bars() = 1; leave() = STATE; port() = 0
                order(SHUT, %1$d, 0); leave() = STATE; pass(1) = 1; bars() = 0; leave() = 1
                """.formatted(bay));
        }
        Script.run("She can leave ... if all hatches are shut: a jam does not matter", """
            jam(0, 50); jam(5, 50); bars() = 0; leave() = 1; hatch(0) = 2; hatch(5) = 2
            """);
    }

    private static void leaveWithinBounds() {
        Script.run("She can leave ... if ... the trim ... within their bounds", """
            tank(3, 10); bounds(10, 0, 9999); bars() = 0; bounds(9, 0, 9999); bars() = 2; leave() = STATE
            tank(3, 0); tank(2, 9); bars() = 0; tank(2, 10); bars() = 2; leave() = STATE; tank(2, 9); leave() = 1
            """);
        for (int row : new int[] {0, 2}) {
            Script.run("She can leave ... if ... the heel ... within their bounds: in the row " + row, """
                stow(10, 9, PLAIN, 2%1$d2); bounds(2000, 9, 9999); bars() = 4; leave() = STATE
                bounds(2000, 10, 9999); bars() = 0; leave() = 1
                stow(1, 9, PLAIN, 2%1$d3); bars() = 4; leave() = STATE     # the same bound at the next port
                """.formatted(row));
        }
        Script.run("She can leave ... if ... the bendings are within their bounds", """
            tank(2, 10); tank(3, 10); bounds(0, 0, 29); moment(2) = -40; moment(3) = 0; moment(4) = 40; bars() = 8
            leave() = STATE; bounds(0, 0, 39); bars() = 8; leave() = STATE; bounds(0, 0, 40); bars() = 0; leave() = 1
            """);
        Script.run("The ship never leaves past her bounds: told later, they count as well", """
            stow(20, 9, PLAIN, 2); leave() = 1; bounds(99, 2000, 9999); bars() = 2; leave() = STATE
            bounds(2000, 19, 9999); bars() = 4; leave() = STATE; bounds(2000, 2000, 99); bars() = 8; leave() = STATE
            bounds(100, 20, 100); bars() = 0; leave() = 2
            """);
    }

    private static void leaveWithoutItsBoxes() {
        Script.run("She can leave ... if ... no box on the ship goes to this port", """
            stow(10, 1, PLAIN, 2); stow(10, 2, PLAIN, 22); bars() = 0; leave() = 1
            bars() = 16; leave() = STATE; port() = 1; at(2) = 0
            order(LAND, 0, 0); leave() = STATE; pass(1) = 1; bars() = 0; leave() = 2
            bars() = 16; order(LAND, 1, 0); pass(1) = 1; leave() = 3
            """);
        Script.run("no box on the ship goes to this port: those in the yard do not matter", """
            box(10, 10, 0, PLAIN, 0); bars() = 0; leave() = 1; box(10, 10, 1, PLAIN, 0); bars() = 0; leave() = 2
            """);
    }

    private static void ordersWaitNoMore() {
        Script.run("She can leave ...; then no orders wait any more", """
            stow(10, 5, PLAIN, 2); order(SHIFT, 0, 102); order(SHUT, 0, 0); order(LAND, 0, 0); orders() = 3
            leave() = 1; orders() = 0; drop(0) = OUT; can(0, 0) = OUT; pass(2) = 0; at(2) = 0
            order(SHIFT, 0, 202) = 1; leave() = 2; pass(1) = 0; at(2) = 0
            """);
        Script.run("leave that is refused: the orders wait", """
            order(OPEN, 0, 0); pass(1); order(SHUT, 0, 0); leave() = STATE; orders() = 1; pass(1) = 1; leave() = 1
            """);
    }

    private static void yardIsEmpty() {
        Script s = new Script("As she leaves, all boxes in the yard are gone; the yard at the next port is empty");
        for (int i = 0; i < 40; i++) s.due("" + i, "box", 5, 5, 5, 0, i / 4);
        s.due("1", "leave");
        for (int i = 0; i < 40; i++) s.due("-1", "inYard", i / 4, i % 4).due("2", "of", i, 4).due("-1", "of", i, 5);
        s.play("""
            pass(1) = 0; cost() = 25
            box(40, 40, 5, PLAIN, 0) = 40; inYard(0, 0) = 40; box(40, 40, 5, PLAIN, 9) = 41; inYard(9, 0) = 41
            inYard(0, 1) = NONE
            """).end();
        Script.run("the yard at the next port is empty, but for boxes that come to it", """
            stow(10, 5, PLAIN, 2); box(1, 1, 5, PLAIN, 3); leave() = 1; of(0, 4) = SHIP
            order(LAND, 0, 3); pass(1) = 1; inYard(3, 0) = 0; inYard(3, 1) = NONE; box(15, 15, 5, PLAIN, 3) = 2
            inYard(3, 1) = 2; of(0, 6) = 1
            """);
    }

    private static void allElseStays() {
        Script.run("She can leave for the next port: what the document does not name stays as it was", """
            bounds(30, 20, 73); tank(0, 5); tank(5, 6); jam(4, 20) = 20; plug(2); plug(502); skip(3)
            crane(0, 1, 2, 1); crane(1, 4, 5, 4); order(LOAD, 0, 2) = OUT
            box(9, 12, 9, COLD, 0); papers(0); paper(0, 1); paper(0, 1); box(9, 12, 9, DANGER, 1); paper(1, 2)
            order(LOAD, 0, 502); pass(1) = 1; cost() = 35; tank(0, 17); moment(0) = 5; moment(6) = -12
            leave() = 1
            cost() = 35; hour() = 1; moment(0) = 5; momentAnew(0) = 5; moment(6) = -12; momentAnew(6) = -12; at(502) = 0
            of(0, 0) = 12; of(0, 1) = 9; of(0, 2) = COLD; of(0, 3) = 0; of(1, 0) = 9; of(1, 1) = 9; of(1, 2) = DANGER
            bars() = 0; tank(5, 11) = 6; moment(0) = 30; bars() = 8; tank(5, 12) = 11; bars() = 10; tank(5, 6) = 12
            hatch(4) = 2; jam(4, 1) = 20; skip(3) = STATE; plug(502) = STATE
            plug(2) = false; paper(1, 0) = true; paper(1, 1) = false; tank(0, 1) = 17; tank(5, 0) = 6
            order(OPEN, 1, 0); order(OPEN, 5, 0); order(OPEN, 2, 0); order(OPEN, 3, 0); order(OPEN, 0, 0); order(SHUT, 1, 0)
            can(0, 0) = true; can(0, 1) = false; can(1, 1) = false; can(3, 0) = false; can(3, 1) = false; pass(1) = 1
            orders() = 5; hatch(1) = 1
            """);
    }

    private static void barsTogether() {
        Script.run("bars: 1 for a hatch that is open, 2 for the trim, 4 for the heel, 8 for a bending, 16 ..., together", """
            bars() = 0
            order(OPEN, 5, 0); order(OPEN, 4, 0); pass(1) = 2; bars() = 1
            stow(10, 1, PLAIN, 2); bars() = 1
            bounds(49, 60, 900); bars() = 3; bounds(49, 9, 900); bars() = 7; bounds(49, 9, 49); bars() = 15
            bounds(50, 9, 49); bars() = 13; bounds(50, 10, 49); bars() = 9; bounds(50, 10, 50); bars() = 1
            bounds(2000, 2000, 9999)
            order(SHUT, 5, 0); order(SHUT, 4, 0); pass(1) = 2; bars() = 0; leave() = 1; bars() = 16
            bounds(0, 0, 0); order(OPEN, 3, 0); pass(1) = 1; bars() = 31
            """);
        Script s = new Script("bars: ... 32 at the port 9, together").play("stow(10, 9, PLAIN, 2)");
        for (int port = 1; port <= 9; port++) s.due("" + port, "leave");
        s.play("bars() = 48; bounds(0, 0, 0); bars() = 62; order(OPEN, 1, 0); pass(1); bars() = 63").end();
    }

    private static void barsAtTheirBounds() {
        Script.run("within their bounds: at 0", """
            bounds(0, 0, 0); bars() = 0
            tank(2, 1); bars() = 10; tank(3, 1); bars() = 8; bounds(0, 0, 4); bars() = 0; bounds(0, 0, 3); bars() = 8
            tank(2, 0); tank(3, 0); stow(1, 9, PLAIN, 212); bounds(1, 0, 4); bars() = 0
            order(SHIFT, 0, 202); pass(1); bars() = 4; bounds(1, 1, 4); bars() = 0
            """);
    }

    /** At the cut k the bending of 60 in the bay k - 1 is 60 times (6 - k), and of 60 in the bay k it is -60 times k. */
    private static void barsOfEachCut() {
        for (int cut = 1; cut <= 5; cut++) {
            for (int bay = cut - 1; bay <= cut; bay++) {
                int most = 0;
                for (int k = 1; k <= 5; k++) most = Math.max(most, bay < k ? 60 * (6 - k) : 60 * k);
                Script s = new Script("8 for a bending: of 60 in the bay " + bay);
                s.due("0", "tank", bay, 60).due("" + (bay < cut ? 60 * (6 - cut) : -60 * cut), "moment", cut);
                s.due(null, "bounds", 2000, 0, most).due("0", "bars");
                s.due(null, "bounds", 2000, 0, most - 1).due("8", "bars").end();
            }
        }
    }

    /** Each bay has a load of 10, so that the trim and all bendings are 0. */
    private static void barsOfHeelAlone() {
        for (int row = 0; row < 3; row += 2) {
            Script.run("within their bounds: a heel past the bounds of the other two, in the row " + row, """
                stow(10, 9, PLAIN, 2%1$d2); tank(0, 10); tank(1, 10); tank(3, 10); tank(4, 10); tank(5, 10)
                moment(0) = 0; moment(1) = 0; moment(2) = 0; moment(3) = 0; moment(4) = 0; moment(5) = 0
                bounds(0, 9, 0); bars() = 4; leave() = STATE; bounds(0, 10, 0); bars() = 0; leave() = 1
                """.formatted(row));
        }
    }

    private static void dig() {
        Script.run("To dig for a box on the ship is to count the boxes that have to come off first: those above it in its row", """
            stow(10, 5, PLAIN, 202); dig(0) = 0; stow(10, 5, PLAIN, 203); dig(0) = 1; dig(1) = 0
            stow(10, 5, PLAIN, 212); stow(10, 5, PLAIN, 213); stow(10, 5, PLAIN, 302); dig(0) = 1; dig(2) = 1; dig(4) = 0
            order(LAND, 1, 0); pass(1) = 1; dig(0) = 0; dig(1) = STATE
            """);
        Script.run("those above it in its row, and all on top of its hatch, if it is under that", """
            order(OPEN, 1, 0); pass(1); stow(10, 5, PLAIN, 110); dig(0) = 0; stow(10, 5, PLAIN, 111); dig(0) = 1; dig(1) = 0
            stow(10, 5, PLAIN, 100); stow(10, 5, PLAIN, 101); dig(0) = 1
            order(SHUT, 1, 0); pass(1) = 1; dig(0) = 1; dig(1) = 0              # a shut hatch is no box
            stow(10, 5, PLAIN, 122); dig(0) = 2; dig(1) = 1; dig(2) = 2; dig(3) = 1; dig(4) = 0
            stow(10, 5, PLAIN, 112); dig(0) = 3; dig(1) = 2; dig(5) = 0         # counted once, though in its row, too
            stow(10, 5, PLAIN, 22); stow(10, 5, PLAIN, 222); dig(0) = 3
            """);
    }

    private static void digWithAllOnTop() {
        Script s = new Script("all on top of its hatch: a bay that is full").play("crane(0, 0, 5, 4); order(OPEN, 4, 0); pass(1)");
        for (int i = 0; i < 6; i++) s.play("stow(10, 5, PLAIN, " + (400 + 10 * (i / 2) + i % 2) + ")");
        s.play("order(SHUT, 4, 0); pass(1) = 1");
        for (int i = 0; i < 6; i++) s.play("stow(10, 5, PLAIN, " + (402 + 10 * (i / 2) + i % 2) + ")");
        for (int i = 0; i < 12; i++) s.due("" + (i < 6 ? 7 - i % 2 : 1 - i % 2), "dig", i).due("" + (1 - i % 2), "of", i, 6);
        s.end();
    }

    private static void digThrows() {
        Script.run("dig throws IndexOutOfBoundsException if there is no such box, IllegalStateException if it is not on the ship", """
            dig(0) = OUT
            ready(10, 1, PLAIN, 0); box(10, 10, 5, PLAIN, 1)
            dig(-1) = OUT; dig(2) = OUT; dig(MIN) = OUT; dig(MAX) = OUT; dig(60) = OUT
            dig(0) = STATE; dig(1) = STATE
            order(LOAD, 0, 2); pass(1) = 1; dig(0) = 0; leave() = 1; dig(0) = 0; dig(1) = STATE
            order(LAND, 0, 0); pass(1) = 1; dig(0) = STATE
            """);
    }
}
