/** Promises 7 to 9: boxes, papers, ports. */
public final class PromisesBoxes {
    private static final Class<?> OUT = IndexOutOfBoundsException.class;
    private static final Class<?> ARGUMENT = IllegalArgumentException.class;
    private static final Class<?> STATE = IllegalStateException.class;

    public static void main(String[] args) {
        box();
        boxThrows();
        boxOnBox();
        sixtyBoxes();
        paper();
        paperOfGoneBox();
        skip();
        skipThrows();
        skipOfBoxes();
        Due.end();
    }

    private static void box() {
        Watched x = new Watched();
        Due.is("7 the first", 0, () -> x.box(7, 9, 3, CargoHeel.COLD, 4));
        Due.is("7 the next", 1, () -> x.box(1, 40, 0, 4, 4));
        Due.is("7 the least and the most", 2, () -> x.box(40, 1, 9, 0, 9));
        int[] due = {7, 3, 1, 1, CargoHeel.YARD, 4, 1};
        for (int what = 0; what < 7; what++) {
            int its = what;
            Due.is("7 of 0 " + what, due[what], () -> x.of(0, its));
        }
        Due.is("7 on top", 1, () -> x.inYard(4, 1));
        Due.is("7 at the bottom", 0, () -> x.inYard(4, 0));
        Due.is("7 without papers", 1, () -> x.of(1, 3));
    }

    private static void boxThrows() {
        Watched x = new Watched();
        for (int bad : new int[] {Integer.MIN_VALUE, -1, 10, Integer.MAX_VALUE}) {
            Due.isThrown(x, "7 port " + bad, OUT, () -> x.box(0, 0, bad, 9, 0));
            Due.isThrown(x, "7 stack " + bad, OUT, () -> x.box(0, 0, 0, 9, bad));
        }
        for (int bad : new int[] {Integer.MIN_VALUE, -1, 0, 41, Integer.MAX_VALUE}) {
            Due.isThrown(x, "7 weight " + bad, ARGUMENT, () -> x.box(bad, 1, 0, 0, 0));
            Due.isThrown(x, "7 truth " + bad, ARGUMENT, () -> x.box(1, bad, 0, 0, 0));
        }
        for (int bad : new int[] {Integer.MIN_VALUE, -1, 5, Integer.MAX_VALUE}) {
            Due.isThrown(x, "7 kind " + bad, ARGUMENT, () -> x.box(1, 1, 0, bad, 0));
        }
        for (int i = 0; i < 4; i++) x.box(10, 10, 1, 0, 0);
        Due.isThrown(x, "7 no room", STATE, () -> x.box(1, 1, 1, 0, 0));
        Due.isThrown(x, "7 no room, but the weight is out of range", ARGUMENT, () -> x.box(41, 1, 1, 0, 0));
        Due.isThrown(x, "7 no room, but there is no such port", OUT, () -> x.box(41, 1, 10, 0, 0));
        Due.is("7 no number was lost", 4, () -> x.box(1, 1, 1, 0, 1));
    }

    private static void boxOnBox() {
        Watched x = new Watched();
        x.box(10, 40, 1, 0, 0);
        Due.isThrown(x, "7 six more", STATE, () -> x.box(16, 1, 1, 0, 0));
        Due.is("7 five more", 1, () -> x.box(15, 1, 1, 0, 0));
        Due.is("7 five more again", 2, () -> x.box(20, 1, 1, 0, 0));
        Due.is("7 much less", 3, () -> x.box(1, 1, 1, 0, 0));
    }

    private static void sixtyBoxes() {
        Watched x = new Watched();
        for (int i = 0; i < 40; i++) x.box(5, 5, 1, 0, i % 10);
        x.leave();
        for (int i = 0; i < 20; i++) x.box(5, 5, 2, 0, i % 10);
        Due.is("7 the 60th", 59, () -> Due.boxesOf(x) - 1);
        Due.isThrown(x, "7 one more", STATE, () -> x.box(5, 5, 2, 0, 5));
        Due.isThrown(x, "7 one more of no kind", ARGUMENT, () -> x.box(5, 5, 2, 5, 5));
        Due.is("7 the last one lies there", 59, () -> x.inYard(9, 1));
    }

    private static void paper() {
        Watched x = new Watched();
        x.box(5, 5, 1, 0, 0);
        Due.is("8 one of 3", true, () -> x.paper(0, 2));
        Due.is("8 two of 3", true, () -> x.paper(0, 0));
        Due.is("8 three of 3", false, () -> x.paper(0, 1));
        Due.is("8 not held", 0, () -> x.of(0, 3));
        Due.is("8 taken back", true, () -> x.paper(0, 0));
        Due.is("8 held", 1, () -> x.of(0, 3));
        Due.is("8 brought again", false, () -> x.paper(0, 0));
        for (int bad : new int[] {Integer.MIN_VALUE, -1, 1, 60, Integer.MAX_VALUE}) {
            Due.isThrown(x, "8 box " + bad, OUT, () -> x.paper(bad, 0));
        }
        for (int bad : new int[] {Integer.MIN_VALUE, -1, 3, 32, Integer.MAX_VALUE}) {
            Due.isThrown(x, "8 paper " + bad, OUT, () -> x.paper(0, bad));
        }
    }

    private static void paperOfGoneBox() {
        Watched x = new Watched();
        Due.cleared(x, 5, 1, 0, 0);
        x.leave();
        Due.is("8 of a gone box", true, () -> x.paper(0, 1));
        Due.is("8 then", 1, () -> x.of(0, 3));
    }

    private static void skip() {
        Watched x = new Watched();
        Due.is("9 no boxes", 0, () -> x.skip(1));
        Due.is("9 not next", 0, () -> x.skip(3));
        Due.is("9 she calls at 2", 2, x::leave);
        Due.is("9 she calls at 4", 4, x::leave);
        Due.is("9 the last one that can be", 0, () -> x.skip(8));
        x.skip(7);
        x.skip(6);
        x.skip(5);
        Due.is("9 she calls at 9", 9, x::leave);
    }

    private static void skipThrows() {
        Watched x = new Watched();
        for (int bad : new int[] {Integer.MIN_VALUE, -1, 0, 9, 10, Integer.MAX_VALUE}) {
            Due.isThrown(x, "9 port " + bad, OUT, () -> x.skip(bad));
        }
        x.skip(4);
        Due.isThrown(x, "9 twice", STATE, () -> x.skip(4));
        x.leave();
        Due.isThrown(x, "9 where she is", STATE, () -> x.skip(1));
        x.leave();
        Due.isThrown(x, "9 behind her", STATE, () -> x.skip(1));
        Due.is("9 ahead of her", 0, () -> x.skip(3));
        Due.is("9 past both", 5, x::leave);
        Due.isThrown(x, "9 left out and behind her", STATE, () -> x.skip(3));
        Due.isThrown(x, "9 the last one though she is there", OUT, () -> x.skip(0));
    }

    private static void skipOfBoxes() {
        Watched x = new Watched();
        Due.cleared(x, 5, 3, 0, 0);
        Due.cleared(x, 5, 3, 0, 1);
        x.box(5, 5, 2, 0, 2);
        x.box(5, 5, 8, 0, 3);
        x.order(CargoHeel.LOAD, 0, 2);
        x.pass(1);
        x.skip(4);
        Due.is("9 on the ship and in the yard", 2, () -> x.skip(3));
        Due.is("9 the next one not left out", 5, () -> x.of(0, 1));
        Due.is("9 of the yard too", 5, () -> x.of(1, 1));
        Due.is("9 the others keep theirs", 2, () -> x.of(2, 1));
        Due.is("9 to the last port", 1, () -> x.skip(8));
        Due.is("9 it goes to 9", 9, () -> x.of(3, 1));
        Due.is("9 comes for a port left out", 4, () -> x.box(5, 5, 3, 0, 4));
        Due.is("9 and keeps it", 3, () -> x.of(4, 1));
        for (int paper = 0; paper < 3; paper++) x.paper(4, paper);
        x.order(CargoHeel.LOAD, 4, 102);
        Due.is("9 which is not ahead", false, () -> x.can(0, 0));
        int before = x.cost();
        x.pass(1);
        Due.is("9 and costs", before + 26, x::cost);
        x.leave();
        Due.is("9 only what is not gone", 1, () -> x.skip(5));
        Due.is("9 on the ship", 6, () -> x.of(0, 1));
        Due.is("9 gone", 5, () -> x.of(1, 1));
    }
}
