/** The boundary cases of 'Boxes, the yard' in the terms, and of the promises 7 and 8. */
public final class EdgesBoxes {
    public static void main(String[] args) {
        sixtyBoxes();
        sixtyBoxesAreLifted();
        boxIsTold();
        boxOutOfRange();
        papers();
        papersOutOfRange();
        whereTheyAre();
        stacks();
        stacksForLandings();
        fiveMoreInTheYard();
        fiveMoreOnTheShip();
        fiveMoreOfAllWeights();
        asTold();
        cold();
        dangerInOneBay();
        dangerApart();
        dangerOffTheShip();
        Due.end();
    }

    private static void sixtyBoxes() {
        Script s = new Script("Boxes are numbered from 0, at most 60");
        for (int box = 0; box < 40; box++) s.due("" + box, "box", 5, 5, 9, 0, box % 10);
        s.play("of(39, 4) = YARD; of(40, 4) = OUT; leave() = 1; of(39, 4) = GONE");
        for (int box = 40; box < 59; box++) s.due("" + box, "box", 5, 5, 9, 0, box % 10);
        s.play("""
            paper(58, 0) = true; of(59, 0) = OUT; paper(59, 0) = OUT; dig(59) = OUT; may(59, 2) = OUT; order(LOAD, 59, 2) = OUT
            order(LAND, 59, 2) = OUT; order(SHIFT, 59, 2) = OUT
            box(6, 7, 8, 4, 9) = 59; of(59, 0) = 6; of(59, 1) = 8; of(59, 2) = 4; of(59, 3) = 1; of(59, 4) = YARD; of(59, 6) = 0
            paper(59, 0) = true; of(59, 5) = 9; inYard(9, 1) = 59; dig(59) = STATE; may(59, 2) = true
            order(LOAD, 59, 2) = 1; order(LAND, 59, 2) = 2; order(SHIFT, 59, 2) = 3
            box(5, 5, 9, PLAIN, 0) = STATE; box(1, 1, 0, PLAIN, 9) = STATE       # there were 60, though 40 are gone
            of(60, 0) = OUT; paper(60, 0) = OUT; dig(60) = OUT; may(60, 2) = OUT; order(LOAD, 60, 2) = OUT
            inYard(0, 2) = NONE; inYard(9, 2) = NONE
            leave() = 2
            box(5, 5, 9, PLAIN, 0) = STATE; inYard(0, 0) = NONE; of(59, 4) = GONE
            box(0, 5, 9, PLAIN, 0) = ARGUMENT; box(5, 5, 10, PLAIN, 0) = OUT     # those are named first
            """).end();
    }

    /** All on one ship, tier by tier, each lighter than the one before; what a box was told as is never its true weight. */
    private static void sixtyBoxesAreLifted() {
        Script s = new Script("Boxes are numbered from 0, at most 60 ... a true one, which is found when a crane lifts it");
        int trim = 0;
        int heel = 0;
        for (int box = 0; box < 60; box++) {
            if (box == 0) allHatches(s, CargoHeel.OPEN);
            if (box == 36) allHatches(s, CargoHeel.SHUT);
            int bay = box % 18 / 3;
            int row = box % 3;
            int truth = 40 - box * 2 / 3;
            trim += truth * (2 * bay - 5);
            heel += truth * (row - 1);
            s.due("" + box, "box", truth == 5 ? 4 : 5, truth, 9, 0, box % 10);
            for (int paper = 0; paper < 3; paper++) s.due(null, "paper", box, paper);
            s.due(null, "order", CargoHeel.LOAD, box, 100 * bay + 10 * row + box / 18);
            if (box % 2 == 0) continue;
            s.due("2", "pass", 1).due("" + truth, "of", box, 0).due("" + (40 - (box - 1) * 2 / 3), "of", box - 1, 0);
            s.due("" + trim, "moment", 0).due("" + heel, "moment", 6);
        }
        s.end();
    }

    private static void allHatches(Script s, int what) {
        for (int bay = 0; bay < 6; bay++) s.due("" + (bay + 1), "order", what, bay, 0);
        s.due("6", "pass", 2);
    }

    private static void boxIsTold() {
        Script.run("weight: 1 to 40, truth: 1 to 40, port: 0 to 9, kind: PLAIN to 4, stack: 0 to 9", """
            box(1, 40, 0, PLAIN, 0) = 0
            of(0, 0) = 1; of(0, 1) = 0; of(0, 2) = PLAIN; of(0, 3) = 1; of(0, 4) = YARD; of(0, 5) = 0; of(0, 6) = 0
            box(40, 1, 9, 4, 9) = 1
            of(1, 0) = 40; of(1, 1) = 9; of(1, 2) = 4; of(1, 3) = 1; of(1, 4) = YARD; of(1, 5) = 9; of(1, 6) = 0
            box(2, 39, 1, COLD, 1) = 2; of(2, 2) = COLD; box(39, 2, 8, DANGER, 8) = 3; of(3, 2) = 2; of(3, 1) = 8
            box(20, 20, 5, 3, 5) = 4; of(4, 2) = 3; of(4, 5) = 5
            papers(0); papers(1); order(LOAD, 1, 2); pass(1) = 1; of(1, 0) = 1; moment(0) = -5
            """);
        Script.run("A box comes to the yard ..., without papers", """
            box(5, 5, 1, PLAIN, 0) = 0; of(0, 3) = 1
            order(LOAD, 0, 2); can(0, 0) = false
            paper(0, 0) = true; paper(0, 1) = true; paper(0, 2) = false; can(0, 0) = true
            """);
    }

    private static void boxOutOfRange() {
        Script s = new Script("box throws IndexOutOfBoundsException if there is no such port or stack");
        for (int bad : new int[] {-1, 10, Integer.MIN_VALUE, Integer.MAX_VALUE}) {
            s.due("OUT", "box", 5, 5, bad, 0, 0).due("OUT", "box", 5, 5, 0, 0, bad);
            s.due("OUT", "box", 0, 41, bad, 5, 0).due("OUT", "box", 0, 41, 0, 5, bad);
        }
        s.play("box(5, 5, 0, PLAIN, 0) = 0; box(5, 5, 9, PLAIN, 9) = 1").end();
        s = new Script("box throws IllegalArgumentException if weight, truth or kind is out of range");
        for (int bad : new int[] {-1, 0, 41, Integer.MIN_VALUE, Integer.MAX_VALUE}) {
            s.due("ARGUMENT", "box", bad, 5, 0, 0, 0).due("ARGUMENT", "box", 5, bad, 0, 0, 0);
        }
        for (int bad : new int[] {-1, 5, Integer.MIN_VALUE, Integer.MAX_VALUE}) s.due("ARGUMENT", "box", 5, 5, 0, bad, 0);
        for (int weight = 1; weight <= 40; weight += 13) s.due(null, "box", weight, 41 - weight, 0, 0, weight % 10);
        s.end();
        Script.run("box: the exception that is named first is thrown", """
            box(10, 5, 5, PLAIN, 0); box(10, 5, 5, PLAIN, 0); box(10, 5, 5, PLAIN, 0); box(10, 5, 5, PLAIN, 0)
            box(20, 5, 5, PLAIN, 1)
            box(5, 5, 10, PLAIN, 0) = OUT; box(5, 5, -1, PLAIN, 0) = OUT; box(26, 5, 10, PLAIN, 1) = OUT
            box(0, 5, 5, PLAIN, 0) = ARGUMENT; box(5, 41, 5, PLAIN, 0) = ARGUMENT; box(5, 5, 5, 5, 0) = ARGUMENT
            box(41, 5, 5, PLAIN, 1) = ARGUMENT; box(26, 0, 5, PLAIN, 1) = ARGUMENT; box(26, 5, 5, -1, 1) = ARGUMENT
            box(5, 5, 5, PLAIN, 0) = STATE; box(26, 5, 5, PLAIN, 1) = STATE
            """);
    }

    private static void papers() {
        Script.run("3 papers, each there or not: it is held while one is not", """
            box(5, 5, 1, PLAIN, 0)
            of(0, 3) = 1                                                    # none
            paper(0, 0) = true; of(0, 3) = 1                                # 0
            paper(0, 1) = true; of(0, 3) = 1                                # 0 1
            paper(0, 0) = true; of(0, 3) = 1                                # 1
            paper(0, 2) = true; of(0, 3) = 1                                # 1 2
            paper(0, 0) = false; of(0, 3) = 0                               # 0 1 2
            paper(0, 1) = true; of(0, 3) = 1                                # 0 2
            paper(0, 0) = true; of(0, 3) = 1                                # 2
            paper(0, 2) = true; of(0, 3) = 1                                # none
            paper(0, 2) = true; paper(0, 1) = true; paper(0, 0) = false     # all, the other way round
            """);
        Script.run("Brings a paper of a box: not of another one", """
            box(5, 5, 1, PLAIN, 0); box(5, 5, 1, PLAIN, 1)
            paper(0, 0); paper(1, 1); paper(0, 2); paper(1, 0) = true; paper(0, 1) = false; paper(1, 2) = false
            """);
        Script.run("Brings a paper of a box: on the ship, and a gone one", """
            stow(5, 4, PLAIN, 2); box(5, 5, 1, PLAIN, 0)
            paper(0, 1) = true; of(0, 3) = 1; paper(0, 1) = false; of(0, 3) = 0
            leave() = 1; of(1, 4) = GONE
            paper(1, 0) = true; paper(1, 1) = true; paper(1, 2) = false; of(1, 3) = 0; paper(1, 2) = true; of(1, 3) = 1
            """);
    }

    private static void papersOutOfRange() {
        Script.run("paper throws IndexOutOfBoundsException if there is no such box or paper", """
            paper(0, 0) = OUT
            box(5, 5, 1, PLAIN, 0)
            paper(0, -1) = OUT; paper(0, 3) = OUT; paper(0, MIN) = OUT; paper(0, MAX) = OUT; paper(0, 32) = OUT
            paper(-1, 0) = OUT; paper(1, 0) = OUT; paper(MIN, 0) = OUT; paper(MAX, 0) = OUT; paper(1, 3) = OUT
            paper(0, 0) = true; paper(0, 3) = OUT; paper(0, 2) = true; paper(0, -1) = OUT; paper(0, 1) = false
            """);
    }

    private static void whereTheyAre() {
        Script.run("It is in the yard, on the ship, or gone", """
            ready(10, 2, PLAIN, 3); box(10, 10, 2, PLAIN, 4)
            of(0, 4) = YARD; of(0, 5) = 3
            order(LOAD, 0, 112); pass(1) = 1; of(0, 4) = SHIP; of(0, 5) = 112; inYard(3, 0) = NONE
            leave() = 1; of(0, 4) = SHIP; of(0, 5) = 112; of(1, 4) = GONE; of(1, 5) = NONE
            order(LAND, 0, 7); pass(1) = 1; of(0, 4) = YARD; of(0, 5) = 7; at(112) = NONE; inYard(7, 0) = 0
            leave() = 2; of(0, 4) = GONE; of(0, 5) = NONE; inYard(7, 0) = NONE
            """);
    }

    private static void stacks() {
        Script.run("The yard has the stacks 0 to 9, each of at most 4 boxes. A box comes to the yard on top of a stack", """
            box(10, 10, 5, PLAIN, 0) = 0; box(10, 10, 5, PLAIN, 0) = 1; box(10, 10, 5, PLAIN, 0) = 2
            inYard(0, 0) = 0; inYard(0, 1) = 1; inYard(0, 2) = 2; inYard(0, 3) = NONE
            box(10, 10, 5, PLAIN, 0) = 3; inYard(0, 3) = 3
            box(1, 1, 5, PLAIN, 0) = STATE; inYard(0, 4) = NONE
            box(1, 1, 5, PLAIN, 9) = 4; inYard(9, 0) = 4; inYard(1, 0) = NONE
            papers(3); order(LOAD, 3, 2); pass(1) = 1
            box(10, 10, 5, PLAIN, 0) = 5; box(10, 10, 5, PLAIN, 0) = STATE; inYard(0, 3) = 5
            """);
        Script s = new Script("each of at most 4 boxes: all ten stacks");
        for (int i = 0; i < 40; i++) s.due("" + i, "box", 5, 5, 5, 0, i / 4);
        for (int stack = 0; stack < 10; stack++) s.due("STATE", "box", 5, 5, 5, 0, stack);
        for (int i = 0; i < 40; i++) s.due("" + i, "inYard", i / 4, i % 4);
        s.end();
    }

    private static void stacksForLandings() {
        Script.run("each of at most 4 boxes: a landing too", """
            stow(10, 5, PLAIN, 2); stow(10, 5, PLAIN, 12)
            box(10, 10, 5, PLAIN, 7); box(10, 10, 5, PLAIN, 7); box(10, 10, 5, PLAIN, 7)
            order(LAND, 0, 7); order(LAND, 1, 7); can(0, 0) = true; can(1, 0) = true
            pass(1) = 1; inYard(7, 3) = 0; can(0, 0) = false; pass(1) = 0; at(12) = 1
            order(LOAD, 0, 22); pass(1) = 2; inYard(7, 3) = 1               # one is taken, there is room
            """);
    }

    private static void fiveMoreInTheYard() {
        Script.run("only if its weight ... is at most 5 more than that of the other one: as it comes to the yard", """
            box(10, 10, 5, PLAIN, 0) = 0
            box(16, 16, 5, PLAIN, 0) = STATE; box(40, 40, 5, PLAIN, 0) = STATE; inYard(0, 1) = NONE
            box(15, 15, 5, PLAIN, 0) = 1
            box(21, 21, 5, PLAIN, 0) = STATE; box(20, 20, 5, PLAIN, 0) = 2  # of the uppermost one
            box(1, 1, 5, PLAIN, 0) = 3
            box(40, 40, 5, PLAIN, 1) = 4                                    # on none
            """);
        Script.run("only if its weight ... is at most 5 more than that of the other one: as it is landed", """
            stow(15, 5, PLAIN, 2); stow(16, 5, PLAIN, 12); box(10, 10, 5, PLAIN, 0) = 2; box(10, 10, 5, PLAIN, 1) = 3
            order(LAND, 1, 0) = 1; can(0, 0) = false; pass(1) = 0; drop(0) = 0
            order(LAND, 0, 0) = 1; can(0, 0) = true; pass(1) = 1; inYard(0, 1) = 0
            order(LAND, 1, 0) = 1; can(0, 0) = true; pass(1) = 1; inYard(0, 2) = 1
            """);
    }

    private static void fiveMoreOnTheShip() {
        Script.run("only if its weight ... is at most 5 more than that of the other one: as it is loaded", """
            stow(10, 5, PLAIN, 2); ready(16, 5, PLAIN, 0); ready(15, 5, PLAIN, 1)
            may(1, 3) = false; may(2, 3) = true
            order(LOAD, 1, 3) = 1; can(0, 0) = false; pass(1) = 0; at(3) = NONE; drop(0)
            order(LOAD, 2, 3) = 1; can(0, 0) = true; pass(1) = 1; at(3) = 2
            """);
        Script.run("only if its weight ... is at most 5 more than that of the other one: under a hatch", """
            order(OPEN, 0, 0); pass(1); stow(10, 5, PLAIN, 10); ready(16, 5, PLAIN, 0); ready(15, 5, PLAIN, 1)
            may(1, 11) = false; may(2, 11) = true
            order(LOAD, 1, 11) = 1; can(0, 0) = false; pass(1) = 0; drop(0)
            order(LOAD, 2, 11) = 1; can(0, 0) = true; pass(1) = 1; at(11) = 2
            """);
        Script.run("only if its weight ... is at most 5 more than that of the other one: as it is shifted", """
            stow(10, 5, PLAIN, 2); stow(16, 5, PLAIN, 12); stow(15, 5, PLAIN, 22)
            order(SHIFT, 1, 3) = 1; can(0, 0) = false; pass(1) = 0; at(12) = 1; drop(0)
            order(SHIFT, 2, 3) = 1; can(0, 0) = true; pass(1) = 1; at(3) = 2; at(22) = NONE
            """);
        Script.run("a hatch lies between: 40 on the hatch on 1", """
            order(OPEN, 0, 0); pass(1); stow(1, 5, PLAIN, 10); stow(1, 5, PLAIN, 11); order(SHUT, 0, 0); pass(1)
            ready(40, 5, PLAIN, 0); may(2, 12) = true
            order(LOAD, 2, 12); pass(1) = 1; at(12) = 2
            """);
    }

    private static void fiveMoreOfAllWeights() {
        for (int below = 1; below <= 40; below += 3) {
            Script s = new Script("is at most 5 more: on " + below).play("stow(" + below + ", 5, PLAIN, 2)");
            int most = Math.min(40, below + 5);
            s.due("1", "box", most, most, 5, 0, 0).due("1", "may", 1, 3);
            s.due("2", "box", below, below, 5, 0, 1).due("3", "box", most, most, 5, 0, 1);
            if (most < 40) s.due("4", "box", most + 1, most, 5, 0, 2).due("0", "may", 4, 3);
            s.due("" + (most < 40 ? 5 : 4), "box", below, below, 5, 0, 3);
            if (most < 40) s.due("STATE", "box", most + 1, 1, 5, 0, 3);
            s.end();
        }
    }

    private static void asTold() {
        Script.run("only if its weight, as it is told by then", """
            box(10, 40, 5, PLAIN, 0) = 0; box(16, 1, 5, PLAIN, 0) = STATE; box(15, 40, 5, PLAIN, 0) = 1
            box(20, 1, 5, PLAIN, 1) = 2; papers(2); box(10, 10, 5, PLAIN, 2) = 3; papers(3)
            order(LOAD, 3, 2); order(LOAD, 2, 3); pass(1) = 1; at(2) = 3      # told 20, though truly 1, is too much
            can(0, 0) = false; may(2, 3) = false; drop(0)
            order(LOAD, 2, 12); pass(1) = 1; of(2, 0) = 1                   # now it is told
            order(SHIFT, 2, 3); pass(1) = 1; at(3) = 2
            """);
        Script.run("only if its weight, as it is told by then: of the lower one in the yard", """
            stow(10, 5, PLAIN, 2)
            box(10, 30, 5, PLAIN, 0) = 1; papers(1)
            order(LOAD, 1, 3); pass(1) = 1; of(1, 4) = YARD; of(1, 0) = 30  # it stays, its weight is told
            box(36, 36, 5, PLAIN, 0) = STATE; box(35, 35, 5, PLAIN, 0) = 2
            """);
        Script.run("only if its weight, as it is told by then: of the lower one on the ship", """
            box(30, 4, 5, PLAIN, 0) = 0; papers(0); order(LOAD, 0, 2); pass(1) = 1
            box(10, 10, 5, PLAIN, 0) = 1; box(9, 9, 5, PLAIN, 1) = 2; may(1, 3) = false; may(2, 3) = true
            """);
    }

    private static void cold() {
        Script.run("A COLD box may be put into a slot with a plug alone", """
            ready(10, 5, COLD, 0); plug(202)
            may(0, 202) = true; may(0, 212) = false; may(0, 302) = false
            order(LOAD, 0, 212) = 1; can(0, 0) = false; pass(1) = 0; drop(0)
            order(LOAD, 0, 202) = 1; can(0, 0) = true; pass(1) = 1; at(202) = 0
            order(SHIFT, 0, 212) = 1; can(0, 0) = false; pass(1) = 0
            plug(212) = true; can(0, 0) = true; pass(1) = 1; at(212) = 0
            order(LAND, 0, 3); pass(1) = 1; inYard(3, 0) = 0                # the yard needs no plug
            """);
        for (int kind : new int[] {CargoHeel.PLAIN, CargoHeel.DANGER, 3, 4}) {
            Script.run("the kind " + kind + " may be put into a slot with a plug and without", """
                ready(10, 5, %1$d, 0); plug(202); may(0, 202) = true; may(0, 212) = true
                order(LOAD, 0, 202); pass(1) = 1; at(202) = 0; order(SHIFT, 0, 212); pass(1) = 1; at(212) = 0
                """.formatted(kind));
        }
        Script.run("A COLD box may be put into a slot with a plug alone: and all else matters, too", """
            ready(10, 5, COLD, 0); plug(203); plug(200); plug(202); may(0, 203) = false; may(0, 200) = false
            stow(4, 5, PLAIN, 202); may(0, 203) = false
            """);
    }

    private static boolean clash(int one, int other, int apart) {
        if (one < 2 || other < 2) return false;
        return apart == 0 ? one != other : apart == 1 && (one == 4 || other == 4);
    }

    private static void dangerInOneBay() {
        Script.run("Two DANGER boxes on the ship may not be in one bay, if their classes are unlike", """
            stow(10, 5, DANGER, 202); ready(10, 5, 3, 0); ready(10, 5, DANGER, 1); ready(10, 5, 4, 2)
            may(1, 203) = false; may(1, 212) = false; may(1, 222) = false; may(2, 203) = true; may(2, 222) = true
            may(3, 222) = false
            order(LOAD, 1, 222) = 1; can(0, 0) = false; pass(1) = 0; drop(0)
            order(LOAD, 2, 222) = 1; can(0, 0) = true; pass(1) = 1
            stow(10, 5, 3, 102); order(SHIFT, 4, 212) = 1; can(0, 0) = false; pass(1) = 0; at(102) = 4
            """);
        Script.run("Two DANGER boxes ... may not be in one bay: a hatch between them does not matter", """
            order(OPEN, 2, 0); pass(1); stow(10, 5, 3, 200); order(SHUT, 2, 0); pass(1)
            ready(10, 5, DANGER, 0); ready(10, 5, 3, 1); ready(10, 5, 4, 2)
            may(1, 222) = false; may(2, 222) = true; may(3, 222) = false; may(3, 122) = false; may(3, 322) = false
            """);
    }

    private static void dangerApart() {
        String sentence = "nor in bays beside each other, if one of these has the class 3: ";
        for (int there = 0; there <= 4; there++) {
            for (int bay = 0; bay < 6; bay++) {
                Script s = new Script(sentence + there + " in the bay " + bay).play("plug(" + bay + "02)");
                s.play("stow(10, 5, " + there + ", " + bay + "02)");
                for (int kind = 0; kind <= 4; kind++) s.due("" + (kind + 1), "box", 10, 10, 5, kind, kind);
                for (int to = 0; to < 6; to++) {
                    s.due("1", "plug", 100 * to + 22);
                    for (int kind = 0; kind <= 4; kind++) {
                        boolean clash = clash(there, kind, Math.abs(to - bay));
                        s.due(clash ? "0" : "1", "may", kind + 1, 100 * to + 22);
                    }
                }
                s.end();
            }
        }
        Script.run(sentence + "it cannot be loaded, nor shifted there", """
            stow(10, 5, 4, 202); ready(10, 5, DANGER, 0); stow(10, 5, 3, 402)
            order(LOAD, 1, 302) = 1; can(0, 0) = false; order(LOAD, 1, 102) = 2; can(1, 0) = false
            order(SHIFT, 2, 302) = 3; can(2, 0) = false; order(SHIFT, 2, 102) = 4; can(3, 0) = false; pass(1) = 0
            order(SHIFT, 0, 302) = 5; can(4, 0) = false                     # nor the one of the class 3 to the others
            order(SHIFT, 2, 502) = 6; pass(1) = 3; at(302) = 0; at(102) = 1; at(502) = 2
            """);
    }

    private static void dangerOffTheShip() {
        Script.run("Two DANGER boxes on the ship: those in the yard do not matter", """
            box(10, 10, 5, DANGER, 0) = 0; box(10, 10, 5, 3, 0) = 1; box(10, 10, 5, 4, 0) = 2
            may(0, 2) = true; may(1, 2) = true; may(2, 2) = true
            stow(10, 5, 4, 202); may(0, 202) = false; may(0, 212) = false; may(0, 302) = false; may(0, 402) = true
            order(LAND, 3, 0); pass(1) = 1; inYard(0, 3) = 3
            may(0, 202) = true; may(0, 212) = true; may(0, 302) = true
            """);
        Script.run("Two DANGER boxes on the ship: gone ones do not matter, and one does not clash with itself", """
            stow(10, 5, 4, 202); box(10, 10, 5, 3, 0); leave() = 1
            may(0, 302) = true; may(0, 212) = true; may(0, 102) = true; may(1, 302) = false; may(1, 402) = true
            order(SHIFT, 0, 302); pass(1) = 1; at(302) = 0; may(1, 102) = true; may(1, 402) = false
            order(LAND, 0, 0); pass(1) = 1; leave() = 2; may(1, 302) = true
            """);
    }
}
