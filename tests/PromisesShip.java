/** Promises 1 to 6: a new object, and what is told of the ship. */
public final class PromisesShip {
    private static final Class<?> OUT = IndexOutOfBoundsException.class;
    private static final Class<?> ARGUMENT = IllegalArgumentException.class;
    private static final Class<?> STATE = IllegalStateException.class;
    private static final int[] NO_SLOTS = {Integer.MIN_VALUE, -100, -1, 4, 9, 30, 99, 104, 130, 524, 530, 600, 1000,
        Integer.MAX_VALUE};
    private static final int[] NO_BAYS = {Integer.MIN_VALUE, -1, 6, Integer.MAX_VALUE};

    public static void main(String[] args) {
        aNewObject();
        plug();
        bounds();
        boundsAreAmounts();
        boundsAtFirst();
        tank();
        jam();
        jamBlocksOpening();
        crane();
        craneReachesBothEnds();
        Due.end();
    }

    private static void aNewObject() {
        Watched x = new Watched();
        Due.is("1 hour", 0, x::hour);
        Due.is("1 port", 0, x::port);
        Due.is("1 cost", 0, x::cost);
        Due.is("1 orders", 0, x::orders);
        Due.is("1 bars", 0, x::bars);
        for (int i = 0; i < 72; i++) {
            int slot = 100 * (i / 12) + 10 * (i / 4 % 3) + i % 4;
            Due.is("1 at " + slot, -1, () -> x.at(slot));
        }
        for (int bay = 0; bay < 6; bay++) {
            int its = bay;
            Due.is("1 hatch " + bay, 0, () -> x.hatch(its));
            Due.is("1 water " + bay, 0, () -> x.tank(its, 0));
        }
        for (int what = 0; what < 7; what++) {
            int its = what;
            Due.is("1 moment " + what, 0, () -> x.moment(its));
        }
        Due.is("1 a cold box", 0, () -> Due.cleared(x, 10, 5, CargoHeel.COLD, 0));
        for (int i = 0; i < 72; i++) {
            int slot = 100 * (i / 12) + 10 * (i / 4 % 3) + i % 4;
            Due.is("1 no plug at " + slot, false, () -> x.may(0, slot));
            x.plug(slot);
            Due.is("1 a plug at " + slot, slot % 10 == 2, () -> x.may(0, slot));
        }
    }

    private static void plug() {
        Watched x = new Watched();
        Due.is("2 put", true, () -> x.plug(523));
        Due.is("2 taken away", false, () -> x.plug(523));
        Due.is("2 put again", true, () -> x.plug(523));
        Due.is("2 the first slot", true, () -> x.plug(0));
        Due.is("2 another slot", true, () -> x.plug(2));
        for (int slot : NO_SLOTS) Due.isThrown(x, "2 plug " + slot, OUT, () -> x.plug(slot));
        Due.cleared(x, 10, 5, CargoHeel.COLD, 0);
        Due.cleared(x, 10, 5, CargoHeel.PLAIN, 1);
        x.plug(102);
        x.order(CargoHeel.LOAD, 0, 2);
        x.order(CargoHeel.LOAD, 1, 102);
        Due.is("2 both loaded", 2, () -> x.pass(1));
        Due.isThrown(x, "2 under a cold box", STATE, () -> x.plug(2));
        Due.is("2 under a plain box", false, () -> x.plug(102));
        x.order(CargoHeel.LAND, 0, 0);
        x.pass(1);
        Due.is("2 where a cold box was", false, () -> x.plug(2));
    }

    private static void bounds() {
        Watched x = new Watched();
        int[][] wrong = {{-1, 0, 0}, {2001, 0, 0}, {0, -1, 0}, {0, 2001, 0}, {0, 0, -1}, {0, 0, 10000},
            {Integer.MIN_VALUE, 0, 0}, {0, Integer.MAX_VALUE, 0}};
        for (int[] b : wrong) {
            Due.isThrown(x, "3 bounds " + b[0] + " " + b[1] + " " + b[2], ARGUMENT, () -> bound(x, b[0], b[1], b[2]));
        }
        Due.is("3 the least", 0, () -> bound(x, 0, 0, 0));
        x.tank(3, 1);
        Due.is("3 past them", 2 + 8, x::bars);
        Due.isThrown(x, "3 a wrong one changes none", ARGUMENT, () -> bound(x, 2000, 2000, 10000));
        Due.is("3 still past them", 2 + 8, x::bars);
        Due.is("3 the most", 0, () -> bound(x, 2000, 2000, 9999));
        Due.is("3 within them", 0, x::bars);
    }

    private static void boundsAreAmounts() {
        Watched x = new Watched();
        x.tank(0, 80);
        Due.is("3 the trim at its bound", -400, () -> x.moment(0));
        Due.is("3 at the bound of 400", 0, x::bars);
        x.tank(0, 81);
        Due.is("3 below less the bound", 2, x::bars);
        x.tank(0, 0);
        x.tank(5, 81);
        Due.is("3 above the bound", 2, x::bars);
        x.bounds(405, 60, 405);
        Due.is("3 bendings below 0 at the bound", 0, x::bars);
        x.bounds(405, 60, 404);
        Due.is("3 bendings below 0 past it", 8, x::bars);
        x.tank(0, 81);
        x.tank(5, 0);
        x.bounds(405, 60, 404);
        Due.is("3 bendings above 0 past it", 8, x::bars);
        x.tank(0, 0);
        x.tank(2, 99);
        x.tank(3, 99);
        x.bounds(0, 0, 594);
        Due.is("3 bending at 2", -396, () -> x.moment(2));
        Due.is("3 bending at 4", 396, () -> x.moment(4));
        Due.is("3 both level", 0, x::bars);
        x.bounds(0, 0, 395);
        Due.is("3 at any cut", 8, x::bars);
        Watched y = new Watched();
        y.tank(1, 99);
        y.tank(2, 99);
        y.tank(3, 99);
        y.tank(4, 99);
        Due.is("3 within 900 at first", 0, y::bars);
        Due.cleared(y, 40, 5, 0, 0);
        Due.cleared(y, 21, 5, 0, 1);
        y.order(CargoHeel.LOAD, 0, 202);
        y.order(CargoHeel.LOAD, 1, 302);
        y.pass(1);
        Due.is("3 a heel past 60 to the one side", 4, y::bars);
        y.bounds(400, 61, 900);
        Due.is("3 a heel at its bound", 0, y::bars);
    }

    /** 400, 60 and 900 are allowed at first, and 1 more is not. */
    private static void boundsAtFirst() {
        Watched x = new Watched();
        x.tank(5, 80);
        Due.is("3 a trim of 400", 0, x::bars);
        x.tank(3, 1);
        Due.is("3 a trim of 401", 2, x::bars);
        Watched y = new Watched();
        loaded(y, 30, 222);
        loaded(y, 30, 322);
        Due.is("3 a heel of 60", 0, y::bars);
        loaded(y, 1, 323);
        Due.is("3 a heel of 61", 4, y::bars);
        Watched z = new Watched();
        for (int bay = 0; bay < 5; bay++) z.tank(bay, 99);
        for (int bay = 300; bay <= 400; bay += 100) {
            for (int place : new int[] {2, 3, 12, 13, 22}) loaded(z, 40, bay + place);
        }
        loaded(z, 5, 212);
        Due.is("3 a bending of 900", 900, () -> z.moment(5));
        Due.is("3 which is within", 0, () -> z.bars() & 8);
        loaded(z, 1, 423);
        Due.is("3 a bending of 901", 901, () -> z.moment(5));
        Due.is("3 which is not", 8, () -> z.bars() & 8);
    }

    private static void loaded(Watched x, int weight, int slot) {
        x.order(CargoHeel.LOAD, Due.cleared(x, weight, 9, CargoHeel.PLAIN, 0), slot);
        x.pass(1);
    }

    private static Object bound(Watched x, int trim, int heel, int bending) {
        x.bounds(trim, heel, bending);
        return 0;
    }

    private static void tank() {
        Watched x = new Watched();
        Due.is("4 was empty", 0, () -> x.tank(5, 99));
        Due.is("4 was full", 99, () -> x.tank(5, 7));
        Due.is("4 holds what it was told", 7, () -> x.tank(5, 7));
        Due.is("4 another one", 0, () -> x.tank(0, 3));
        Due.is("4 the trim", 20, () -> x.moment(0));
        Due.is("4 no heel", 0, () -> x.moment(6));
        for (int bay : NO_BAYS) Due.isThrown(x, "4 bay " + bay, OUT, () -> x.tank(bay, 100));
        for (int water : new int[] {Integer.MIN_VALUE, -1, 100, Integer.MAX_VALUE}) {
            Due.isThrown(x, "4 water " + water, ARGUMENT, () -> x.tank(0, water));
        }
        Due.is("4 as before", 3, () -> x.tank(0, 0));
    }

    private static void jam() {
        Watched x = new Watched();
        Due.is("5 the first", 1, () -> x.jam(0, 1));
        Due.is("5 the last", 50, () -> x.jam(5, 50));
        Due.is("5 the longest counts", 50, () -> x.jam(5, 1));
        Due.is("5 a longer one", 3, () -> x.jam(0, 3));
        Due.is("5 jammed", 2, () -> x.hatch(0));
        Due.is("5 not jammed", 0, () -> x.hatch(1));
        x.pass(2);
        Due.is("5 still jammed", 2, () -> x.hatch(0));
        x.pass(1);
        Due.is("5 over", 0, () -> x.hatch(0));
        Due.is("5 from now on", 5, () -> x.jam(0, 2));
        for (int bay : NO_BAYS) Due.isThrown(x, "5 bay " + bay, OUT, () -> x.jam(bay, 0));
        for (int hours : new int[] {Integer.MIN_VALUE, -1, 0, 51, Integer.MAX_VALUE}) {
            Due.isThrown(x, "5 hours " + hours, ARGUMENT, () -> x.jam(1, hours));
        }
        Due.is("5 no jam by them", 0, () -> x.hatch(1));
    }

    private static void jamBlocksOpening() {
        Watched x = new Watched();
        x.jam(1, 2);
        x.order(CargoHeel.OPEN, 1, 0);
        Due.is("5 not in the hour 0 nor 1", 0, () -> x.pass(2));
        Due.is("5 in the hour 2", 1, () -> x.pass(1));
        x.jam(1, 5);
        Due.is("5 open and jammed", 3, () -> x.hatch(1));
        x.order(CargoHeel.SHUT, 1, 0);
        Due.is("5 shut while jammed", 1, () -> x.pass(1));
        Due.is("5 then", 2, () -> x.hatch(1));
        Due.is("5 she leaves", 1, x::leave);
        Due.is("5 it stays jammed", 2, () -> x.hatch(1));
    }

    private static void crane() {
        Watched x = new Watched();
        x.order(CargoHeel.OPEN, 0, 0);
        for (int crane : new int[] {Integer.MIN_VALUE, -1, 2, Integer.MAX_VALUE}) {
            Due.isThrown(x, "6 crane " + crane, OUT, () -> told(x, crane, 9, -9, 9));
        }
        int[][] wrong = {{-1, 5, 1}, {0, 6, 1}, {3, 2, 1}, {6, 6, 1}, {0, 5, 0}, {0, 5, 5}, {-1, -1, 1},
            {0, 5, Integer.MIN_VALUE}, {Integer.MIN_VALUE, Integer.MAX_VALUE, 1}};
        for (int[] w : wrong) {
            Due.isThrown(x, "6 crane 0 " + w[0] + " " + w[1] + " " + w[2], ARGUMENT, () -> told(x, 0, w[0], w[1], w[2]));
        }
        Due.is("6 all bays at first", true, () -> x.can(0, 0));
        Due.is("6 told", 0, () -> told(x, 0, 5, 5, 1));
        Due.is("6 out of its reach", false, () -> x.can(0, 0));
        Due.is("6 in the reach of the other one", true, () -> x.can(0, 1));
        Watched y = new Watched();
        for (int bay = 0; bay < 6; bay++) y.order(CargoHeel.OPEN, bay, 0);
        Due.is("6 two lifts each at first", 4, () -> y.pass(1));
        Due.is("6 and the rest", 2, () -> y.pass(1));
        for (int bay = 0; bay < 6; bay++) y.order(CargoHeel.SHUT, bay, 0);
        y.crane(0, 0, 5, 1);
        y.crane(1, 0, 5, 4);
        Due.is("6 one and four", 5, () -> y.pass(1));
    }

    private static void craneReachesBothEnds() {
        Watched x = new Watched();
        x.crane(1, 2, 4, 4);
        for (int bay = 0; bay < 6; bay++) x.order(CargoHeel.OPEN, bay, 0);
        for (int bay = 0; bay < 6; bay++) {
            int its = bay;
            Due.is("6 in 2 to 4 is " + bay, bay >= 2 && bay <= 4, () -> x.can(its, 1));
        }
    }

    private static Object told(Watched x, int crane, int from, int to, int lifts) {
        x.crane(crane, from, to, lifts);
        return 0;
    }
}
