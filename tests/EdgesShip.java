/** The boundary cases of 'The ship' in the terms, and of the promises 1 to 6. */
public final class EdgesShip {
    private static final int[] FAR = {Integer.MIN_VALUE, Integer.MIN_VALUE + 1, -1000, -200, 721, 999, 1000, 1002, 10000,
        Integer.MAX_VALUE - 1, Integer.MAX_VALUE};

    public static void main(String[] args) {
        aNewObject();
        slots();
        slotsByNumber();
        slotNeedsOneUnderIt();
        slotNeedsOneUnderItAnywhere();
        plugs();
        coldBoxesKeepTheirPlug();
        hatchesOpen();
        hatchesOpenUnderNoBox();
        hatchesShut();
        hatchesBar();
        tanks();
        loads();
        moments();
        boundsAtFirst();
        boundsOfBendingAtFirst();
        bounds();
        boundsAtTheirMost();
        jams();
        jamsThatLast();
        cranes();
        cranesReach();
        cranesLift();
        Due.end();
    }

    private static void aNewObject() {
        Script s = new Script("The ship is empty, at the port 0, without plugs; the hour is 0");
        s.play("""
            hour() = 0; port() = 0; cost() = 0; orders() = 0; bars() = 0
            of(0, 0) = OUT; paper(0, 0) = OUT; dig(0) = OUT; may(0, 0) = OUT; order(LOAD, 0, 0) = OUT
            drop(0) = OUT; can(0, 0) = OUT
            """);
        for (int what = 0; what < 7; what++) s.due("0", "moment", what).due("0", "momentAnew", what);
        for (int bay = 0; bay < 6; bay++) s.due("0", "hatch", bay).due("0", "tank", bay, 0);
        for (int i = 0; i < 40; i++) s.due("-1", "inYard", i / 4, i % 4);
        for (int i = 0; i < 72; i++) s.due("-1", "at", Picture.slot(i));
        for (int i = 0; i < 72; i++) s.due("1", "plug", Picture.slot(i));
        s.end();
    }

    private static void slots() {
        Script.run("The ship has the bays 0 to 5, each with the rows 0, 1 and 2, and the tiers 0 to 3", """
            at(0) = NONE; at(523) = NONE; at(3) = NONE; at(20) = NONE; at(500) = NONE
            at(-1) = OUT; at(4) = OUT; at(9) = OUT; at(10) = NONE; at(30) = OUT; at(24) = OUT; at(33) = OUT; at(99) = OUT
            at(100) = NONE; at(104) = OUT; at(130) = OUT; at(524) = OUT; at(530) = OUT; at(599) = OUT; at(600) = OUT
            plug(-1) = OUT; plug(4) = OUT; plug(30) = OUT; plug(24) = OUT; plug(524) = OUT; plug(530) = OUT; plug(600) = OUT
            plug(0) = true; plug(523) = true
            ready(10, 5, PLAIN, 0)
            may(0, -1) = OUT; may(0, 4) = OUT; may(0, 30) = OUT; may(0, 24) = OUT; may(0, 524) = OUT; may(0, 600) = OUT
            may(0, 522) = true; may(0, 2) = true
            order(LOAD, 0, -1) = OUT; order(LOAD, 0, 4) = OUT; order(LOAD, 0, 30) = OUT; order(LOAD, 0, 524) = OUT
            order(LOAD, 0, 530) = OUT; order(LOAD, 0, 600) = OUT
            order(SHIFT, 0, -1) = OUT; order(SHIFT, 0, 4) = OUT; order(SHIFT, 0, 30) = OUT; order(SHIFT, 0, 524) = OUT
            order(SHIFT, 0, 530) = OUT; order(SHIFT, 0, 600) = OUT
            order(LOAD, 0, 0) = 1; order(LOAD, 0, 523) = 2; order(SHIFT, 0, 0) = 3; order(SHIFT, 0, 523) = 4
            tank(0, 0) = 0; tank(5, 0) = 0; tank(-1, 0) = OUT; tank(6, 0) = OUT
            hatch(0) = 0; hatch(5) = 0; hatch(-1) = OUT; hatch(6) = OUT
            order(OPEN, 0, 0) = 5; order(OPEN, 5, 0) = 6; order(OPEN, -1, 0) = OUT; order(OPEN, 6, 0) = OUT
            order(SHUT, 0, 0) = 7; order(SHUT, 5, 0) = 8; order(SHUT, -1, 0) = OUT; order(SHUT, 6, 0) = OUT
            """);
    }

    private static boolean isSlot(int number) {
        for (int i = 0; i < 72; i++) if (Picture.slot(i) == number) return true;
        return false;
    }

    private static void slotsByNumber() {
        String sentence = "A slot is told as a number: 100 times the bay, 10 times the row, and the tier, together";
        for (int from = -120; from < 720; from += 60) {
            Script s = new Script(sentence).play("ready(10, 5, PLAIN, 0)");
            for (int slot = from; slot < from + 60; slot++) slotOrNone(s, slot);
            s.end();
        }
        Script s = new Script(sentence).play("ready(10, 5, PLAIN, 0)");
        for (int slot : FAR) slotOrNone(s, slot);
        s.end();
    }

    private static void slotOrNone(Script s, int slot) {
        boolean is = isSlot(slot);
        s.swept(is ? "-1" : "OUT", "at", slot);
        s.swept(is ? "1" : "OUT", "plug", slot);
        s.swept(!is ? "OUT" : slot % 10 == 2 ? "1" : "0", "may", 0, slot);
        for (int what : new int[] {CargoHeel.LOAD, CargoHeel.SHIFT}) {
            s.swept(is ? "1" : "OUT", "order", what, 0, slot);
            if (is) s.swept("0", "drop", 0);
        }
    }

    private static void slotNeedsOneUnderIt() {
        String sentence = "A slot of the tier 1 or 3 can have a box only if the one under it has one; those of the tier 2"
            + " do not need one under them";
        Script.run(sentence, """
            ready(10, 5, PLAIN, 0); ready(10, 5, PLAIN, 1)
            order(LOAD, 0, 303) = 1; can(0, 0) = false; pass(1) = 0; at(303) = NONE; drop(0) = 0
            order(LOAD, 0, 302) = 1; can(0, 0) = true; pass(1) = 1; at(302) = 0     # the tier 2 on nothing
            order(LOAD, 1, 303) = 1; can(0, 0) = true; pass(1) = 1; at(303) = 1
            order(SHIFT, 1, 3) = 1; can(0, 0) = false; pass(1) = 0; drop(0) = 0
            stow(10, 5, PLAIN, 2)
            order(SHIFT, 1, 3) = 1; can(0, 0) = true; pass(1) = 1; at(3) = 1; at(303) = NONE
            """);
        Script.run(sentence, """
            ready(10, 5, PLAIN, 0); ready(10, 5, PLAIN, 1); ready(10, 5, PLAIN, 2)
            order(OPEN, 1, 0) = 1; pass(1) = 1
            order(LOAD, 0, 101) = 1; can(0, 0) = false; pass(1) = 0; drop(0) = 0
            order(LOAD, 0, 100) = 1; pass(1) = 1; at(100) = 0                       # the tier 0 on nothing
            order(LOAD, 1, 101) = 1; pass(1) = 1; at(101) = 1
            order(SHUT, 1, 0) = 1; pass(1) = 1
            order(LOAD, 2, 103) = 1; can(0, 0) = false                              # 101 is not right under 103
            drop(0) = 0
            order(LOAD, 2, 102) = 1; pass(1) = 1; at(102) = 2                       # the tier 2 on a hatch on others
            """);
    }

    private static void slotNeedsOneUnderItAnywhere() {
        for (int i = 0; i < 36; i++) {
            int slot = 100 * (i / 6) + 10 * (i / 2 % 3) + i % 2 * 2;
            boolean under = slot % 10 == 0;
            Script s = new Script("only if the one under it has one: that in " + slot).play("ready(10, 5, PLAIN, 0)");
            if (under) s.due(null, "order", CargoHeel.OPEN, slot / 100, 0).due("1", "pass", 1);
            s.play("stow(10, 5, PLAIN, " + slot + ")");
            for (int j = 0; j < 72; j++) {
                int other = Picture.slot(j);
                boolean open = under && other / 100 == slot / 100;
                boolean allowed = other == slot + 1 || other != slot && other % 10 == (open ? 0 : 2);
                s.swept(allowed ? "1" : "0", "may", 0, other);
            }
            s.end();
        }
    }

    private static void plugs() {
        Script.run("Puts a plug at a slot, or takes it away; returns whether there is one then", """
            ready(10, 5, COLD, 0)
            may(0, 202) = false
            plug(202) = true; may(0, 202) = true; may(0, 212) = false; may(0, 102) = false
            plug(202) = false; may(0, 202) = false
            plug(202) = true; may(0, 202) = true
            """);
        for (int i = 0; i < 72; i++) {
            Script s = new Script("A slot can have a plug").play("ready(10, 5, COLD, 0)");
            s.due("1", "plug", Picture.slot(i));
            for (int j = 2; j < 72; j += 4) s.swept(i == j ? "1" : "0", "may", 0, Picture.slot(j));
            s.due("0", "plug", Picture.slot(i));
            for (int j = 2; j < 72; j += 4) s.swept("0", "may", 0, Picture.slot(j));
        }
    }

    private static void coldBoxesKeepTheirPlug() {
        Script.run("plug throws IllegalStateException if a COLD box is there", """
            plug(2); plug(12); plug(500)
            stow(10, 5, COLD, 2)
            plug(2) = STATE; at(2) = 0
            plug(3) = true; plug(1) = true; plug(102) = true                # beside it, above it, under it
            order(SHIFT, 0, 12) = 1; pass(1) = 1
            plug(2) = false; plug(12) = STATE                               # it has left the one for the other
            order(OPEN, 5, 0); order(SHIFT, 0, 500); pass(1) = 2
            plug(500) = STATE; plug(12) = false
            order(LAND, 0, 0); pass(1) = 1
            plug(500) = false; plug(500) = true                             # the slot is empty
            """);
        for (int kind : new int[] {CargoHeel.PLAIN, CargoHeel.DANGER, 3, 4}) {
            Script.run("plug throws IllegalStateException if a COLD box is there, not one of the kind " + kind, """
                stow(10, 5, %d, 2)
                plug(2) = true; plug(2) = false
                """.formatted(kind));
        }
    }

    private static void hatchesOpen() {
        Script.run("a hatch is shut, at first, or open", """
            hatch(0) = 0; hatch(5) = 0
            order(OPEN, 5, 0); pass(1) = 1; hatch(5) = 1; hatch(4) = 0
            order(SHUT, 5, 0); pass(1) = 1; hatch(5) = 0
            """);
        Script.run("A hatch can be opened if its bay has no boxes on top of it, and it is not jammed", """
            stow(10, 5, PLAIN, 212); stow(10, 5, PLAIN, 213)
            order(OPEN, 2, 0) = 1; can(0, 0) = false; can(0, 1) = false; pass(1) = 0; hatch(2) = 0
            order(LAND, 1, 0) = 2; pass(1) = 1; can(0, 0) = false               # one is still there
            order(LAND, 0, 1) = 2; pass(1) = 2; hatch(2) = 1; orders() = 0
            """);
        Script.run("A hatch can be opened if its bay has no boxes on top of it: those under it do not matter", """
            order(OPEN, 3, 0); pass(1)
            stow(10, 5, PLAIN, 300); stow(10, 5, PLAIN, 301); stow(10, 5, PLAIN, 320)
            order(SHUT, 3, 0); pass(1) = 1
            order(OPEN, 3, 0); can(0, 0) = true; pass(1) = 1; hatch(3) = 1
            """);
        Script.run("A hatch can be opened if ... it is not jammed", """
            jam(4, 1) = 1; order(OPEN, 4, 0) = 1; can(0, 0) = false; pass(1) = 0; hatch(4) = 0
            can(0, 0) = true; pass(1) = 1; hatch(4) = 1
            """);
    }

    private static void hatchesOpenUnderNoBox() {
        for (int i = 0; i < 36; i++) {
            int slot = 100 * (i / 6) + 10 * (i / 2 % 3) + i % 2 + 2;
            Script s = new Script("A hatch can be opened if its bay has no boxes on top of it: " + slot);
            if (slot % 10 == 3) s.play("stow(10, 5, PLAIN, " + (slot - 1) + ")");
            s.play("stow(10, 5, PLAIN, " + slot + ")");
            for (int bay = 0; bay < 6; bay++) s.due("" + (bay + 1), "order", CargoHeel.OPEN, bay, 0);
            for (int bay = 0; bay < 6; bay++) s.due(bay == slot / 100 ? "0" : "1", "can", bay, 0);
            s.end();
        }
    }

    private static void hatchesShut() {
        Script.run("it can be shut at any time", """
            order(OPEN, 1, 0); pass(1)
            jam(1, 50) = 51; hatch(1) = 3
            stow(10, 5, PLAIN, 100); stow(10, 5, PLAIN, 101)
            order(SHUT, 1, 0); can(0, 0) = true; can(0, 1) = true; pass(1) = 1; hatch(1) = 2
            order(SHUT, 1, 0); can(0, 0) = false; pass(1) = 0               # it is so already
            drop(0); order(OPEN, 1, 0); can(0, 0) = false                   # it is still jammed
            """);
    }

    private static void hatchesBar() {
        Script.run("While it is open, nothing can be put on top of it", """
            ready(10, 5, PLAIN, 0); stow(10, 5, PLAIN, 302)
            may(0, 202) = true; may(0, 222) = true
            order(OPEN, 2, 0); pass(1)
            may(0, 202) = false; may(0, 212) = false; may(0, 222) = false; may(0, 203) = false; may(0, 102) = true
            order(LOAD, 0, 202) = 1; order(SHIFT, 1, 212) = 2; can(0, 0) = false; can(1, 0) = false; pass(1) = 0
            order(SHUT, 2, 0) = 3; pass(1) = 3; at(202) = 0; at(212) = 1
            """);
        Script.run("while it is shut, nothing under it can be put in", """
            ready(10, 5, PLAIN, 0); stow(10, 5, PLAIN, 302)
            may(0, 200) = false; may(0, 210) = false; may(0, 220) = false
            order(LOAD, 0, 200) = 1; order(SHIFT, 1, 210) = 2; can(0, 0) = false; can(1, 0) = false; pass(1) = 0
            order(OPEN, 1, 0) = 3; pass(1) = 1; hatch(1) = 1                # that of another bay
            can(0, 0) = false; can(1, 0) = false
            order(OPEN, 2, 0) = 3; pass(1) = 3; at(200) = 0; at(210) = 1
            """);
        Script.run("while it is shut, nothing under it can be ... taken", """
            order(OPEN, 2, 0); pass(1)
            stow(10, 5, PLAIN, 200); stow(10, 5, PLAIN, 201); stow(10, 5, PLAIN, 220)
            order(SHUT, 2, 0); pass(1) = 1
            order(LAND, 1, 0) = 1; order(SHIFT, 2, 302) = 2; can(0, 0) = false; can(1, 0) = false; pass(1) = 0
            order(OPEN, 3, 0) = 3; pass(1) = 1; can(0, 0) = false           # that of another bay
            order(SHUT, 3, 0) = 3; pass(1) = 1
            order(OPEN, 2, 0) = 3; pass(1) = 3
            inYard(0, 0) = 1; at(302) = 2; at(201) = NONE; at(220) = NONE; at(200) = 0
            """);
        Script.run("a box on top is taken while the hatch is shut", """
            stow(10, 5, PLAIN, 202); stow(10, 5, PLAIN, 212); hatch(2) = 0
            order(LAND, 0, 0); order(SHIFT, 1, 222); can(0, 0) = true; can(1, 0) = true; pass(1) = 2
            """);
    }

    private static void tanks() {
        Script.run("Each bay has a tank with 0 to 99 of water, 0 at first; returns how much was in it", """
            tank(0, 0) = 0; tank(0, 99) = 0; tank(0, 1) = 99; tank(0, 98) = 1; tank(0, 0) = 98; tank(0, 0) = 0
            tank(5, 99) = 0; tank(5, 99) = 99; tank(4, 5) = 0; tank(5, 0) = 99; tank(4, 0) = 5
            tank(1, 7) = 0; tank(2, 8) = 0; tank(3, 9) = 0; tank(1, 0) = 7; tank(2, 0) = 8; tank(3, 0) = 9
            """);
        Script.run("tank throws IllegalArgumentException if water is out of range", """
            tank(3, 50) = 0
            tank(3, -1) = ARGUMENT; tank(3, 100) = ARGUMENT; tank(3, MIN) = ARGUMENT; tank(3, MAX) = ARGUMENT
            tank(3, 50) = 50
            """);
        Script.run("tank throws IndexOutOfBoundsException if there is no such bay", """
            tank(-1, 5) = OUT; tank(6, 5) = OUT; tank(MIN, 5) = OUT; tank(MAX, 5) = OUT; moment(0) = 0
            tank(-1, 100) = OUT; tank(6, -1) = OUT                          # that one is named first
            """);
    }

    private static void loads() {
        Script.run("The load of a bay is the true weights of its boxes, and its water", """
            box(10, 14, 5, PLAIN, 0) = 0; papers(0)
            moment(0) = 0
            order(LOAD, 0, 512); pass(1) = 1; moment(0) = 70; momentAnew(0) = 70; of(0, 0) = 14
            tank(5, 6); moment(0) = 100; momentAnew(0) = 100
            tank(5, 5); moment(0) = 95; momentAnew(0) = 95
            order(LAND, 0, 0); pass(1) = 1; moment(0) = 25; momentAnew(0) = 25
            tank(5, 0); moment(0) = 0; momentAnew(0) = 0
            """);
        Script.run("The heel is the sum of the true weights times the row less 1", """
            box(10, 14, 5, PLAIN, 0) = 0; papers(0); box(10, 3, 5, PLAIN, 1) = 1; papers(1)
            order(LOAD, 0, 502); order(LOAD, 1, 522); pass(1) = 2
            moment(6) = -11; momentAnew(6) = -11
            tank(2, 99); moment(6) = -11; momentAnew(6) = -11               # water has no say in it
            order(SHIFT, 0, 512); pass(1) = 1; moment(6) = 3; momentAnew(6) = 3
            """);
    }

    private static void moments() {
        for (int bay = 0; bay < 6; bay++) {
            for (int row = 0; row < 3; row++) {
                Script s = new Script("The trim ..., the heel ..., the bending at the cut k: a box of 7 in the bay " + bay);
                s.play("stow(7, 9, PLAIN, " + (100 * bay + 10 * row + 2) + ")");
                theMoments(s, bay, 7, 7 * (row - 1));
                s.due("0", "tank", bay, 99);
                theMoments(s, bay, 7 + 99, 7 * (row - 1));
                s.end();
            }
        }
    }

    private static void theMoments(Script s, int bay, int load, int heel) {
        for (String name : new String[] {"moment", "momentAnew"}) {
            s.due("" + load * (2 * bay - 5), name, 0);
            s.due("" + heel, name, 6);
            for (int cut = 1; cut < 6; cut++) s.due("" + (bay < cut ? (6 - cut) * load : -cut * load), name, cut);
        }
    }

    private static void boundsAtFirst() {
        Script.run("Bounds are told for the amounts of these three: 400 ... at first", """
            tank(5, 80); moment(0) = 400; bars() = 0; tank(3, 1); moment(0) = 401; bars() = 2; leave() = STATE
            tank(3, 0); leave() = 1
            tank(5, 0); tank(0, 80); moment(0) = -400; bars() = 0; tank(2, 1); moment(0) = -401; bars() = 2; leave() = STATE
            tank(2, 0); leave() = 2
            """);
        for (int row : new int[] {0, 2}) {
            String sign = row == 0 ? "-" : "";
            Script.run("Bounds are told for the amounts of these three: ... 60 ... at first, in the row " + row, """
                stow(30, 9, PLAIN, 2%1$d2); stow(30, 9, PLAIN, 3%1$d2); moment(6) = %2$s60; bars() = 0; leave() = 1
                stow(1, 9, PLAIN, 2%1$d3); moment(6) = %2$s61; bars() = 4; leave() = STATE
                """.formatted(row, sign));
        }
    }

    /** The other bendings are smaller, the trim is past its bound of 400, the heel is 0. */
    private static void boundsOfBendingAtFirst() {
        for (int bay : new int[] {0, 5}) {
            String sign = bay == 0 ? "" : "-";
            Script.run("Bounds are told for the amounts of these three: ... and 900 at first, in the bay " + bay, """
                stow(40, 9, PLAIN, %1$d02); stow(40, 9, PLAIN, %1$d22); stow(1, 9, PLAIN, %1$d12)
                tank(%1$d, 99); moment(%2$d) = %3$s900; moment(6) = 0; bars() = 2
                stow(1, 9, PLAIN, %1$d13); tank(2, 4); moment(%2$d) = %3$s901; bars() = 10
                tank(2, 5); moment(%2$d) = %3$s900; bars() = 2
                """.formatted(bay, bay == 0 ? 1 : 5, sign));
        }
    }

    private static void bounds() {
        Script.run("trim: 0 to 2000, heel: 0 to 2000, bending: 0 to 9999", """
            bounds(0, 0, 0); bars() = 0; leave() = 1
            tank(3, 1); bars() = 10
            bounds(2000, 2000, 9999); bars() = 0
            bounds(-1, 0, 0) = ARGUMENT; bounds(2001, 0, 0) = ARGUMENT; bounds(MIN, 0, 0) = ARGUMENT; bounds(MAX, 0, 0) = ARGUMENT
            bounds(0, -1, 0) = ARGUMENT; bounds(0, 2001, 0) = ARGUMENT; bounds(0, MIN, 0) = ARGUMENT; bounds(0, MAX, 0) = ARGUMENT
            bounds(0, 0, -1) = ARGUMENT; bounds(0, 0, 10000) = ARGUMENT; bounds(0, 0, MIN) = ARGUMENT; bounds(0, 0, MAX) = ARGUMENT
            bars() = 0
            bounds(0, 0, 9999); bars() = 2; bounds(1, 0, 2); bars() = 8; bounds(1, 0, 3); bars() = 0
            bounds(2000, 2000, 10000) = ARGUMENT; bounds(2000, 2001, 9999) = ARGUMENT; bounds(2001, 2000, 9999) = ARGUMENT
            """);
    }

    private static void boundsAtTheirMost() {
        Script.run("trim: 0 to 2000, with a trim of 2000 and 2001", """
            bounds(2000, 2000, 9999)
            tank(5, 99); tank(4, 99); tank(3, 99)
            stow(40, 9, PLAIN, 502); stow(40, 9, PLAIN, 503); stow(40, 9, PLAIN, 512); stow(40, 9, PLAIN, 513)
            stow(40, 9, PLAIN, 522); stow(21, 9, PLAIN, 523); stow(4, 9, PLAIN, 302)
            moment(0) = 2000; bars() = 0
            stow(1, 9, PLAIN, 303); moment(0) = 2001; bars() = 2; leave() = STATE
            tank(2, 1); moment(0) = 2000; bars() = 0; leave() = 1
            """);
    }

    private static void jams() {
        Script.run("it cannot be opened till so many hours are over; returns the hour from which on it can be opened", """
            jam(0, 1) = 1; jam(5, 50) = 50; hatch(0) = 2; hatch(5) = 2; hatch(1) = 0
            pass(1); hatch(0) = 0; hatch(5) = 2
            jam(0, 2) = 3; jam(1, 50) = 51
            pass(1); hatch(0) = 2; pass(1); hatch(0) = 0
            """);
        Script.run("of several jams the one that lasts longest counts", """
            jam(3, 5) = 5; jam(3, 4) = 5; jam(3, 5) = 5; jam(3, 6) = 6; jam(3, 1) = 6
            pass(5); hatch(3) = 2; jam(3, 1) = 6; jam(3, 2) = 7; pass(1); hatch(3) = 2; pass(1); hatch(3) = 0
            jam(3, 1) = 8
            """);
        Script.run("hours: 1 to 50", """
            jam(2, 0) = ARGUMENT; jam(2, 51) = ARGUMENT; jam(2, -1) = ARGUMENT; jam(2, MIN) = ARGUMENT; jam(2, MAX) = ARGUMENT
            hatch(2) = 0
            jam(2, 1) = 1; jam(2, 51) = ARGUMENT; jam(2, 50) = 50; jam(2, 0) = ARGUMENT
            """);
        Script.run("jam throws IndexOutOfBoundsException if there is no such bay", """
            jam(-1, 5) = OUT; jam(6, 5) = OUT; jam(MIN, 5) = OUT; jam(MAX, 5) = OUT
            jam(-1, 0) = OUT; jam(6, 51) = OUT                              # that one is named first
            jam(0, 1) = 1; jam(5, 1) = 1
            """);
    }

    private static void jamsThatLast() {
        Script.run("it cannot be opened till so many hours are over: 50 of them, over a port", """
            jam(1, 50) = 50; order(OPEN, 1, 0)
            pass(24) = 0; leave() = 1; order(OPEN, 1, 0); pass(24) = 0; pass(1) = 0; hour() = 49; can(0, 0) = false
            hatch(1) = 2
            pass(1) = 0; hour() = 50; hatch(1) = 0; can(0, 0) = true; pass(1) = 1; hatch(1) = 1
            """);
        Script.run("it cannot be opened till so many hours are over: within one call of pass", """
            jam(1, 3) = 3; order(OPEN, 1, 0); order(SHUT, 1, 0); order(OPEN, 1, 0)
            pass(3) = 0; pass(1) = 3; hatch(1) = 1
            """);
        Script.run("Jams the hatch of a bay: one that is open can be jammed", """
            order(OPEN, 1, 0); pass(1); jam(1, 2) = 3; hatch(1) = 3; pass(1); hatch(1) = 3; pass(1); hatch(1) = 1
            """);
    }

    private static void cranes() {
        Script s = new Script("from: 0 to 5, to: from to 5; crane throws IllegalArgumentException if one is out of range");
        s.play("order(OPEN, 0, 0)");
        for (int from = -1; from <= 6; from++) {
            for (int to = -1; to <= 6; to++) {
                boolean right = from >= 0 && to >= from && to <= 5;
                s.due(right ? "0" : "ARGUMENT", "crane", 0, from, to, 1);
                s.due(right ? "0" : "ARGUMENT", "crane", 1, from, to, 4);
            }
        }
        s.end();
        Script.run("crane throws IllegalArgumentException if from, to or lifts is out of range", """
            crane(0, MIN, 5, 1) = ARGUMENT; crane(0, MAX, 5, 1) = ARGUMENT; crane(0, 0, MIN, 1) = ARGUMENT
            crane(0, 0, MAX, 1) = ARGUMENT; crane(1, MIN, MAX, 1) = ARGUMENT; crane(1, MAX, MIN, 1) = ARGUMENT
            crane(0, 0, 5, 0) = ARGUMENT; crane(0, 0, 5, 5) = ARGUMENT; crane(0, 0, 5, -1) = ARGUMENT
            crane(0, 0, 5, MIN) = ARGUMENT; crane(1, 0, 5, MAX) = ARGUMENT
            crane(0, 0, 0, 1); crane(0, 5, 5, 4); crane(1, 0, 5, 1); crane(1, 2, 3, 4)
            """);
        Script.run("crane throws IndexOutOfBoundsException if there is no such crane", """
            crane(-1, 0, 5, 1) = OUT; crane(2, 0, 5, 1) = OUT; crane(MIN, 0, 5, 1) = OUT; crane(MAX, 0, 5, 1) = OUT
            crane(2, 0, 6, 1) = OUT; crane(-1, 3, 2, 1) = OUT; crane(2, 0, 5, 0) = OUT  # that one is named first
            order(OPEN, 0, 0); can(0, 0) = true; can(0, 1) = true; can(0, 2) = OUT; can(0, -1) = OUT
            """);
    }

    private static void cranesReach() {
        for (int crane = 0; crane < 2; crane++) {
            for (int from = 0; from < 6; from++) {
                for (int to = from; to < 6; to++) {
                    Script s = new Script("a reach from a bay to another one, both with them: " + from + " to " + to);
                    for (int bay = 0; bay < 6; bay++) s.due("" + (bay + 1), "order", CargoHeel.OPEN, bay, 0);
                    s.due(null, "crane", crane, from, to, 4);
                    for (int bay = 0; bay < 6; bay++) {
                        s.due(from <= bay && bay <= to ? "1" : "0", "can", bay, crane);
                        s.due("1", "can", bay, 1 - crane);
                    }
                }
            }
        }
    }

    private static void cranesLift() {
        for (int first = 1; first <= 4; first++) {
            for (int second = 1; second <= 4; second++) {
                Script s = new Script("so many lifts in an hour, 1 to 4: " + first + " and " + second);
                s.due(null, "crane", 0, 0, 5, first).due(null, "crane", 1, 0, 5, second);
                for (int bay = 0; bay < 6; bay++) s.due(null, "order", CargoHeel.OPEN, bay, 0);
                for (int bay = 0; bay < 6; bay++) s.due(null, "order", CargoHeel.SHUT, bay, 0);
                s.due("" + (first + second), "pass", 1).due("" + (12 - first - second), "orders");
                s.end();
            }
        }
        Script.run("at first all bays, and 2", """
            order(OPEN, 0, 0); order(OPEN, 5, 0); order(OPEN, 1, 0); order(OPEN, 4, 0); order(OPEN, 2, 0)
            can(0, 0) = true; can(0, 1) = true; can(1, 0) = true; can(1, 1) = true
            pass(1) = 4; orders() = 1; hatch(4) = 1; hatch(2) = 0
            """);
    }
}
