/** Promises 10 to 13: orders, hours, and leaving. */
public final class PromisesOrders {
    private static final Class<?> OUT = IndexOutOfBoundsException.class;
    private static final Class<?> ARGUMENT = IllegalArgumentException.class;
    private static final Class<?> STATE = IllegalStateException.class;
    private static final int[] FAR = {Integer.MIN_VALUE, -1, 600, Integer.MAX_VALUE};

    public static void main(String[] args) {
        order();
        orderThrows();
        drop();
        pass();
        passThrows();
        passInTheirOrder();
        passFindsWeights();
        passFindsLighterOnes();
        passCosts();
        passLandsAndShifts();
        leave();
        leaveBars();
        Due.end();
    }

    private static void order() {
        Watched x = new Watched();
        x.box(5, 5, 1, 0, 0);
        Due.is("10 load", 1, () -> x.order(CargoHeel.LOAD, 0, 523));
        Due.is("10 land", 2, () -> x.order(CargoHeel.LAND, 0, 9));
        Due.is("10 shift", 3, () -> x.order(CargoHeel.SHIFT, 0, 0));
        Due.is("10 open", 4, () -> x.order(CargoHeel.OPEN, 5, Integer.MIN_VALUE));
        Due.is("10 shut", 5, () -> x.order(CargoHeel.SHUT, 0, Integer.MAX_VALUE));
        x.leave();
        Due.is("10 of a gone box", 1, () -> x.order(CargoHeel.LOAD, 0, 2));
        Due.is("10 which nobody can do", 0, () -> x.pass(1));
    }

    private static void orderThrows() {
        Watched x = new Watched();
        x.box(5, 5, 1, 0, 0);
        for (int bad : new int[] {Integer.MIN_VALUE, -1, 5, Integer.MAX_VALUE}) {
            Due.isThrown(x, "10 what " + bad, ARGUMENT, () -> x.order(bad, -1, -1));
        }
        for (int round = 0; round < 2; round++) {
            for (int bad : FAR) {
                for (int what = 0; what < 5; what++) {
                    int its = what;
                    Due.isThrown(x, "10 its " + what + " " + bad, OUT, () -> x.order(its, bad, 0));
                    if (what < 3) Due.isThrown(x, "10 place " + what + " " + bad, OUT, () -> x.order(its, 0, bad));
                }
            }
            Due.isThrown(x, "10 no box 1", OUT, () -> x.order(CargoHeel.LOAD, 1, 0));
            Due.isThrown(x, "10 no bay 6", OUT, () -> x.order(CargoHeel.OPEN, 6, 0));
            Due.isThrown(x, "10 no bay 6 to shut", OUT, () -> x.order(CargoHeel.SHUT, 6, 0));
            Due.isThrown(x, "10 no slot 4", OUT, () -> x.order(CargoHeel.LOAD, 0, 4));
            Due.isThrown(x, "10 no slot 30", OUT, () -> x.order(CargoHeel.SHIFT, 0, 30));
            Due.isThrown(x, "10 no stack 10", OUT, () -> x.order(CargoHeel.LAND, 0, 10));
            Due.isThrown(x, "10 neither what nor box", ARGUMENT, () -> x.order(5, 77, 0));
            if (round == 0) for (int i = 0; i < 20; i++) x.order(CargoHeel.OPEN, 0, 0);
        }
        Due.isThrown(x, "10 a 21st", STATE, () -> x.order(CargoHeel.OPEN, 0, 0));
        Due.is("10 20 of them", 20, x::orders);
        x.drop(19);
        Due.is("10 a 20th", 20, () -> x.order(CargoHeel.OPEN, 0, 0));
    }

    private static void drop() {
        Watched x = new Watched();
        for (int bay = 0; bay < 4; bay++) x.order(CargoHeel.OPEN, bay, 0);
        for (int bad : new int[] {Integer.MIN_VALUE, -1, 4, 20, Integer.MAX_VALUE}) {
            Due.isThrown(x, "11 order " + bad, OUT, () -> x.drop(bad));
        }
        Due.is("11 in the middle", 3, () -> x.drop(1));
        Due.is("11 the last", 2, () -> x.drop(2));
        Due.is("11 two are done", 2, () -> x.pass(1));
        Due.is("11 the first stayed", 1, () -> x.hatch(0));
        Due.is("11 the second did not", 0, () -> x.hatch(1));
        Due.is("11 the third stayed", 1, () -> x.hatch(2));
        Due.is("11 the fourth did not", 0, () -> x.hatch(3));
        Due.isThrown(x, "11 of none", OUT, () -> x.drop(0));
    }

    private static void pass() {
        Watched x = new Watched();
        Due.is("12 no lifts", 0, () -> x.pass(1));
        Due.is("12 the hour", 1, x::hour);
        Due.is("12 a day", 0, () -> x.pass(24));
        Due.is("12 the hour then", 25, x::hour);
        Due.is("12 the cost", 625, x::cost);
        for (int bay = 0; bay < 6; bay++) x.order(CargoHeel.OPEN, bay, 0);
        Due.is("12 all in two hours", 6, () -> x.pass(2));
    }

    private static void passThrows() {
        Watched x = new Watched();
        for (int bad : new int[] {Integer.MIN_VALUE, -1, 0, 25, Integer.MAX_VALUE}) {
            Due.isThrown(x, "12 hours " + bad, ARGUMENT, () -> x.pass(bad));
        }
        for (int i = 0; i < 41; i++) x.pass(24);
        x.order(CargoHeel.OPEN, 0, 0);
        Due.isThrown(x, "12 to 1001", STATE, () -> x.pass(17));
        Due.isThrown(x, "12 to 1009, out of range", ARGUMENT, () -> x.pass(25));
        Due.is("12 to 1000", 1, () -> x.pass(16));
        Due.is("12 the hour 1000", 1000, x::hour);
        Due.isThrown(x, "12 past 1000", STATE, () -> x.pass(1));
        Due.isThrown(x, "12 none at 1000", ARGUMENT, () -> x.pass(0));
        x.jam(0, 50);
        Due.is("12 jammed at 1000", 3, () -> x.hatch(0));
    }

    /** Each lift looks from the front again, the crane 0 has all its lifts ahead of the crane 1. */
    private static void passInTheirOrder() {
        Watched x = new Watched();
        Due.cleared(x, 10, 5, 0, 0);
        Due.cleared(x, 10, 5, 0, 0);
        x.crane(0, 0, 1, 1);
        x.crane(1, 0, 1, 4);
        x.order(CargoHeel.LOAD, 0, 112);
        x.order(CargoHeel.LOAD, 1, 2);
        x.order(CargoHeel.SHIFT, 0, 12);
        Due.is("12 the second frees the first", 3, () -> x.pass(1));
        Due.is("12 shifted at last", 0, () -> x.at(12));
        Watched y = new Watched();
        Due.cleared(y, 10, 5, 0, 0);
        Due.cleared(y, 12, 5, 0, 1);
        y.crane(0, 0, 5, 1);
        y.crane(1, 0, 5, 1);
        y.order(CargoHeel.LOAD, 0, 2);
        y.order(CargoHeel.LOAD, 1, 2);
        Due.is("12 the first one has the slot", 1, () -> y.pass(1));
        Due.is("12 the box 0", 0, () -> y.at(2));
        Due.is("12 the other waits", 1, y::orders);
        Watched z = new Watched();
        z.crane(0, 3, 5, 1);
        z.crane(1, 0, 2, 1);
        z.order(CargoHeel.SHUT, 4, 0);
        z.order(CargoHeel.OPEN, 2, 0);
        z.order(CargoHeel.OPEN, 4, 0);
        Due.is("12 crane 0 is ahead", 2, () -> z.pass(1));
        Due.is("12 to be shut", 1, z::orders);
        Due.is("12 in the next hour", 1, () -> z.pass(1));
        Due.is("12 shut", 0, () -> z.hatch(4));
    }

    private static void passFindsWeights() {
        Watched x = new Watched();
        Due.cleared(x, 10, 5, 0, 0);
        x.box(10, 16, 5, 0, 1);
        x.box(10, 15, 5, 0, 2);
        for (int box = 1; box < 3; box++) for (int paper = 0; paper < 3; paper++) x.paper(box, paper);
        x.order(CargoHeel.LOAD, 0, 102);
        x.order(CargoHeel.LOAD, 1, 103);
        Due.is("12 a lift all the same", 2, () -> x.pass(1));
        Due.is("12 its cost", 45, x::cost);
        Due.is("12 too heavy by its true weight", -1, () -> x.at(103));
        Due.is("12 found", 16, () -> x.of(1, 0));
        Due.is("12 it stays", 1, () -> x.of(1, 5));
        Due.is("12 on its stack", 1, () -> x.inYard(1, 0));
        Due.is("12 the order is gone", 0, x::orders);
        Due.is("12 told by then", false, () -> x.may(1, 103));
        Due.is("12 stacked by what is told", 3, () -> x.box(21, 1, 5, 0, 1));
        x.order(CargoHeel.LOAD, 2, 103);
        Due.is("12 five more", 1, () -> x.pass(1));
        Due.is("12 it is there", 2, () -> x.at(103));
        Due.is("12 with its true weight", 15, () -> x.of(2, 0));
        Due.is("12 loads are true", (10 + 15) * -3, () -> x.moment(0));
    }

    private static void passFindsLighterOnes() {
        Watched x = new Watched();
        x.box(10, 1, 5, 0, 0);
        Due.cleared(x, 10, 5, 0, 1);
        for (int paper = 0; paper < 3; paper++) x.paper(0, paper);
        x.order(CargoHeel.LOAD, 0, 102);
        x.order(CargoHeel.LOAD, 1, 103);
        Due.is("12 told 10, found 1", 1, () -> x.pass(1));
        Due.is("12 too light for what was to lie on it", 1, x::orders);
        Due.is("12 the trim of the true one", -3, () -> x.moment(0));
    }

    private static void passCosts() {
        Watched x = new Watched();
        x.box(5, 5, 0, 0, 0);
        x.box(5, 5, 1, 0, 1);
        x.pass(1);
        Due.is("12 a box for this port", 26, x::cost);
        x.leave();
        Due.is("12 no fee to leave", 26, x::cost);
        x.box(5, 5, 0, 0, 0);
        x.box(5, 5, 1, 0, 0);
        Due.cleared(x, 5, 2, 0, 1);
        x.pass(2);
        Due.is("12 two that are not ahead", 26 + 2 * 27, x::cost);
        x.order(CargoHeel.LOAD, 4, 2);
        x.pass(1);
        Due.is("12 and a lift", 80 + 27 + 10, x::cost);
        x.leave();
        x.order(CargoHeel.LAND, 4, 3);
        x.pass(1);
        Due.is("12 landed ahead of the end of the hour", 117 + 10 + 26, x::cost);
    }

    private static void passLandsAndShifts() {
        Watched x = new Watched();
        Due.cleared(x, 10, 5, 0, 0);
        Due.cleared(x, 8, 5, 0, 1);
        x.order(CargoHeel.LOAD, 0, 2);
        x.order(CargoHeel.LOAD, 1, 3);
        x.pass(1);
        x.order(CargoHeel.LAND, 0, 0);
        Due.is("12 under another one", 0, () -> x.pass(1));
        x.order(CargoHeel.SHIFT, 1, 522);
        Due.is("12 the upper, then the lower", 2, () -> x.pass(1));
        Due.is("12 shifted", 1, () -> x.at(522));
        Due.is("12 from there", -1, () -> x.at(3));
        Due.is("12 landed", 0, () -> x.inYard(0, 0));
        Due.is("12 its stack", 0, () -> x.of(0, 5));
        Due.is("12 the heel", 8, () -> x.moment(6));
        Due.is("12 the trim", 40, () -> x.moment(0));
        x.box(1, 1, 5, 0, 3);
        x.order(CargoHeel.LAND, 1, 3);
        Due.is("12 too heavy for the stack", 0, () -> x.pass(1));
        x.drop(0);
        for (int i = 0; i < 4; i++) x.box(10, 10, 5, 0, 5);
        x.order(CargoHeel.LAND, 1, 5);
        Due.is("12 no room", 0, () -> x.pass(1));
        x.drop(0);
        x.order(CargoHeel.LAND, 1, 0);
        Due.is("12 on top of one", 1, () -> x.pass(1));
        Due.is("12 there", 1, () -> x.inYard(0, 1));
    }

    private static void leave() {
        Watched x = new Watched();
        Due.cleared(x, 10, 2, 0, 0);
        x.box(10, 10, 2, 0, 1);
        x.order(CargoHeel.LOAD, 0, 102);
        x.pass(1);
        x.order(CargoHeel.LAND, 0, 3);
        Due.is("13 the next port", 1, x::leave);
        Due.is("13 the port", 1, x::port);
        Due.is("13 the hour stays", 1, x::hour);
        Due.is("13 no orders", 0, x::orders);
        Due.is("13 the yard is empty", -1, () -> x.inYard(1, 0));
        Due.is("13 gone", CargoHeel.GONE, () -> x.of(1, 4));
        Due.is("13 nowhere", -1, () -> x.of(1, 5));
        Due.is("13 on the ship", 0, () -> x.at(102));
        Due.is("13 a stack has room again", 2, () -> x.box(40, 40, 2, 0, 1));
        x.leave();
        Due.isThrown(x, "13 a box that goes there", STATE, x::leave);
        x.order(CargoHeel.LAND, 0, 0);
        x.pass(1);
        Due.is("13 it has landed", 3, x::leave);
        for (int port = 4; port <= 9; port++) Due.is("13 on", port, x::leave);
        Due.isThrown(x, "13 at the last port", STATE, x::leave);
        Due.is("13 hours go by there too", 0, () -> x.pass(1));
    }

    private static void leaveBars() {
        Watched x = new Watched();
        x.order(CargoHeel.OPEN, 3, 0);
        x.pass(1);
        Due.isThrown(x, "13 a hatch is open", STATE, x::leave);
        x.order(CargoHeel.SHUT, 3, 0);
        x.pass(1);
        x.tank(5, 99);
        Due.isThrown(x, "13 the trim", STATE, x::leave);
        x.bounds(495, 60, 495);
        Due.is("13 within wider bounds", 1, x::leave);
        x.bounds(495, 60, 494);
        Due.isThrown(x, "13 the bending", STATE, x::leave);
        x.tank(5, 0);
        Due.cleared(x, 1, 5, 0, 0);
        x.order(CargoHeel.LOAD, 0, 2);
        x.pass(1);
        x.bounds(2000, 0, 9999);
        Due.isThrown(x, "13 the heel", STATE, x::leave);
        x.bounds(2000, 1, 9999);
        Due.is("13 at last", 2, x::leave);
    }
}
