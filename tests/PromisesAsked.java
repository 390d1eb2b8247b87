/** Promises 14 to 27: what is asked. */
public final class PromisesAsked {
    private static final Class<?> OUT = IndexOutOfBoundsException.class;
    private static final Class<?> ARGUMENT = IllegalArgumentException.class;
    private static final Class<?> STATE = IllegalStateException.class;
    private static final int[] FAR = {Integer.MIN_VALUE, -1, 600, Integer.MAX_VALUE};
    private static final int[] NO_SLOTS = {Integer.MIN_VALUE, -100, -10, -1, 4, 9, 30, 99, 104, 130, 524, 530, 600,
        Integer.MAX_VALUE};

    public static void main(String[] args) {
        hourPortCost();
        of();
        ofUpToTheHatch();
        at();
        inYard();
        hatch();
        moments();
        bars();
        barsOfTrimAlone();
        dig();
        orders();
        canLoad();
        canLand();
        canShift();
        canOpenAndShut();
        canOpenBesideBoxes();
        canWithinReach();
        mayWeights();
        mayHatch();
        mayPlugs();
        mayDanger();
        mayAsIfNotOnTheShip();
        Due.end();
    }

    private static void hourPortCost() {
        Watched x = new Watched();
        x.order(CargoHeel.OPEN, 0, 0);
        x.order(CargoHeel.SHUT, 0, 0);
        x.pass(3);
        Due.is("14 hour", 3, x::hour);
        Due.is("15 port", 0, x::port);
        Due.is("16 cost", 95, x::cost);
        x.skip(1);
        x.leave();
        Due.is("14 hour at sea", 3, x::hour);
        Due.is("15 port 2", 2, x::port);
        Due.is("16 cost at sea", 95, x::cost);
    }

    private static void of() {
        Watched x = new Watched();
        x.box(10, 12, 4, CargoHeel.DANGER, 6);
        x.box(9, 9, 4, 0, 6);
        x.box(8, 8, 4, 0, 6);
        x.box(7, 7, 4, 0, 6);
        for (int box = 0; box < 4; box++) {
            int its = box;
            Due.is("17 on " + box, 3 - box, () -> x.of(its, 6));
            Due.is("17 its stack", 6, () -> x.of(its, 5));
        }
        Due.is("17 weight", 10, () -> x.of(0, 0));
        Due.is("17 port", 4, () -> x.of(0, 1));
        Due.is("17 kind", 2, () -> x.of(0, 2));
        Due.is("17 held", 1, () -> x.of(0, 3));
        Due.is("17 in the yard", 0, () -> x.of(0, 4));
        for (int bad : new int[] {Integer.MIN_VALUE, -1, 4, 60, Integer.MAX_VALUE}) {
            Due.isThrown(x, "17 box " + bad, OUT, () -> x.of(bad, 7));
        }
        for (int bad : new int[] {Integer.MIN_VALUE, -1, 7, Integer.MAX_VALUE}) {
            Due.isThrown(x, "17 what " + bad, ARGUMENT, () -> x.of(0, bad));
        }
        x.leave();
        Due.is("17 gone", 2, () -> x.of(0, 4));
        Due.is("17 gone from its place", -1, () -> x.of(0, 5));
        Due.is("17 nothing on a gone one", 0, () -> x.of(0, 6));
    }

    /** A bay filled from below: the boxes 0 to 3 in the tiers 0 to 3 of the row 1 of the bay 4. */
    private static Watched filled() {
        Watched x = new Watched();
        x.crane(0, 0, 5, 4);
        x.crane(1, 0, 5, 4);
        for (int box = 0; box < 4; box++) Due.cleared(x, 10, 6, 0, box);
        x.order(CargoHeel.OPEN, 4, 0);
        x.order(CargoHeel.LOAD, 0, 410);
        x.order(CargoHeel.LOAD, 1, 411);
        x.order(CargoHeel.SHUT, 4, 0);
        x.order(CargoHeel.LOAD, 2, 412);
        x.order(CargoHeel.LOAD, 3, 413);
        Due.is("filled", 6, () -> x.pass(1));
        return x;
    }

    private static void ofUpToTheHatch() {
        Watched x = filled();
        int[] on = {1, 0, 1, 0};
        for (int box = 0; box < 4; box++) {
            int its = box;
            Due.is("17 on the ship, on " + box, on[box], () -> x.of(its, 6));
            Due.is("17 on the ship", 1, () -> x.of(its, 4));
            Due.is("17 its slot", 410 + box, () -> x.of(its, 5));
        }
    }

    private static void at() {
        Watched x = filled();
        for (int tier = 0; tier < 4; tier++) {
            int its = tier;
            Due.is("18 tier " + tier, tier, () -> x.at(410 + its));
            Due.is("18 beside it", -1, () -> x.at(420 + its));
        }
        for (int bad : NO_SLOTS) Due.isThrown(x, "18 at " + bad, OUT, () -> x.at(bad));
    }

    private static void inYard() {
        Watched x = new Watched();
        x.box(5, 5, 1, 0, 9);
        x.box(5, 5, 1, 0, 9);
        x.box(5, 5, 1, 0, 8);
        Due.is("19 the lowest", 0, () -> x.inYard(9, 0));
        Due.is("19 the next", 1, () -> x.inYard(9, 1));
        Due.is("19 none", -1, () -> x.inYard(9, 2));
        Due.is("19 none in the last place", -1, () -> x.inYard(8, 3));
        Due.is("19 none past the last place", -1, () -> x.inYard(8, 4));
        Due.is("19 none far above", -1, () -> x.inYard(9, Integer.MAX_VALUE));
        Due.is("19 an empty stack", -1, () -> x.inYard(0, 0));
        for (int bad : new int[] {Integer.MIN_VALUE, -1, 10, Integer.MAX_VALUE}) {
            Due.isThrown(x, "19 stack " + bad, OUT, () -> x.inYard(bad, 0));
        }
        Due.isThrown(x, "19 place -1", OUT, () -> x.inYard(9, -1));
        Due.isThrown(x, "19 place least", OUT, () -> x.inYard(9, Integer.MIN_VALUE));
        for (int paper = 0; paper < 3; paper++) x.paper(1, paper);
        x.order(CargoHeel.LOAD, 1, 2);
        x.pass(1);
        Due.is("19 taken from there", -1, () -> x.inYard(9, 1));
    }

    private static void hatch() {
        Watched x = new Watched();
        Due.is("20 shut", 0, () -> x.hatch(5));
        x.order(CargoHeel.OPEN, 5, 0);
        x.pass(1);
        Due.is("20 open", 1, () -> x.hatch(5));
        x.jam(5, 1);
        Due.is("20 open and jammed", 3, () -> x.hatch(5));
        x.jam(0, 1);
        Due.is("20 jammed", 2, () -> x.hatch(0));
        x.pass(1);
        Due.is("20 jammed no more", 0, () -> x.hatch(0));
        for (int bad : new int[] {Integer.MIN_VALUE, -1, 6, Integer.MAX_VALUE}) {
            Due.isThrown(x, "20 bay " + bad, OUT, () -> x.hatch(bad));
        }
    }

    private static void moments() {
        Watched x = new Watched();
        int[] weights = {40, 7, 13, 22};
        int[] slots = {2, 112, 322, 502};
        int[] loads = {40 + 3, 7, 9, 13, 0, 22 + 5};
        for (int box = 0; box < 4; box++) {
            Due.cleared(x, weights[box], 6, 0, box);
            x.order(CargoHeel.LOAD, box, slots[box]);
        }
        x.pass(2);
        x.tank(0, 3);
        x.tank(2, 9);
        x.tank(5, 5);
        int trim = 0;
        int all = 0;
        for (int bay = 0; bay < 6; bay++) {
            trim += loads[bay] * (2 * bay - 5);
            all += loads[bay];
        }
        int below = 0;
        for (int cut = 1; cut < 6; cut++) {
            int its = cut;
            below += loads[cut - 1];
            int due = 6 * below - cut * all;
            Due.is("21 bending " + cut, due, () -> x.moment(its));
            Due.is("22 bending " + cut, due, () -> x.momentAnew(its));
        }
        int trimDue = trim;
        Due.is("21 trim", trimDue, () -> x.moment(0));
        Due.is("22 trim", trimDue, () -> x.momentAnew(0));
        Due.is("21 heel", 13 - 40 - 22, () -> x.moment(6));
        Due.is("22 heel", 13 - 40 - 22, () -> x.momentAnew(6));
        for (int bad : new int[] {Integer.MIN_VALUE, -1, 7, Integer.MAX_VALUE}) {
            Due.isThrown(x, "21 what " + bad, ARGUMENT, () -> x.moment(bad));
            Due.isThrown(x, "22 what " + bad, ARGUMENT, () -> x.momentAnew(bad));
        }
    }

    private static void bars() {
        Watched x = new Watched();
        Due.is("23 none", 0, x::bars);
        Due.cleared(x, 30, 1, 0, 0);
        Due.cleared(x, 40, 9, 0, 1);
        x.order(CargoHeel.LOAD, 0, 2);
        x.order(CargoHeel.LOAD, 1, 522);
        x.pass(1);
        Due.is("23 a box for the next port", 0, x::bars);
        x.bounds(49, 60, 9999);
        Due.is("23 the trim", 2, x::bars);
        x.bounds(50, 9, 9999);
        Due.is("23 the heel", 4, x::bars);
        x.bounds(50, 10, 169);
        Due.is("23 the bending", 8, x::bars);
        x.bounds(50, 10, 170);
        Due.is("23 each at its bound", 0, x::bars);
        x.bounds(2000, 2000, 9999);
        x.leave();
        Due.is("23 a box for this port", 16, x::bars);
        x.order(CargoHeel.OPEN, 2, 0);
        x.pass(1);
        Due.is("23 a hatch too", 17, x::bars);
        x.bounds(0, 0, 0);
        Due.is("23 all but the last port", 31, x::bars);
        x.order(CargoHeel.SHUT, 2, 0);
        x.order(CargoHeel.LAND, 0, 0);
        x.bounds(2000, 2000, 9999);
        x.pass(1);
        Due.is("23 landed", 0, x::bars);
        for (int bay = 0; bay < 6; bay++) {
            x.order(CargoHeel.OPEN, bay, 0);
            x.pass(1);
            // No hatch opens under the box in the bay 5.
            Due.is("23 the hatch " + bay, bay == 5 ? 0 : 1, x::bars);
            x.order(CargoHeel.SHUT, bay, 0);
            x.pass(1);
        }
        for (int port = 2; port < 10; port++) x.leave();
        Due.is("23 at the last port", 32 + 16, x::bars);
        x.order(CargoHeel.LAND, 1, 0);
        x.pass(1);
        Due.is("23 at the last port, empty", 32, x::bars);
    }

    private static void barsOfTrimAlone() {
        Watched x = new Watched();
        x.tank(0, 3);
        x.tank(2, 1);
        x.bounds(16, 0, 14);
        Due.is("23 a trim of 16 is no bending past 14", 0, x::bars);
        x.bounds(15, 0, 14);
        Due.is("23 a trim of 16 past 15", 2, x::bars);
        x.bounds(16, 0, 13);
        Due.is("23 a bending of 14 past 13", 8, x::bars);
    }

    private static void dig() {
        Watched x = filled();
        int[] due = {3, 2, 1, 0};
        for (int box = 0; box < 4; box++) {
            int its = box;
            Due.is("24 the box " + box, due[box], () -> x.dig(its));
        }
        Due.cleared(x, 10, 6, 0, 0);
        Due.cleared(x, 10, 6, 0, 1);
        Due.cleared(x, 10, 6, 0, 2);
        x.order(CargoHeel.LOAD, 4, 402);
        x.order(CargoHeel.LOAD, 5, 422);
        x.order(CargoHeel.LOAD, 6, 522);
        x.pass(1);
        int[] more = {5, 4, 1, 0, 0};
        for (int box = 0; box < 5; box++) {
            int its = box;
            Due.is("24 with two beside it, the box " + box, more[box], () -> x.dig(its));
        }
        x.box(5, 5, 6, 0, 0);
        for (int bad : FAR) Due.isThrown(x, "24 box " + bad, OUT, () -> x.dig(bad));
        Due.isThrown(x, "24 in the yard", STATE, () -> x.dig(7));
        x.leave();
        Due.isThrown(x, "24 gone", STATE, () -> x.dig(7));
    }

    private static void orders() {
        Watched x = new Watched();
        x.order(CargoHeel.OPEN, 0, 0);
        x.order(CargoHeel.OPEN, 0, 0);
        Due.is("25 two", 2, x::orders);
        x.pass(1);
        Due.is("25 one is done, one cannot be", 1, x::orders);
        x.drop(0);
        Due.is("25 none", 0, x::orders);
    }

    private static void canLoad() {
        Watched x = new Watched();
        Due.cleared(x, 10, 1, 0, 0);
        Due.cleared(x, 10, 1, 0, 0);
        x.order(CargoHeel.LOAD, 0, 2);
        x.order(CargoHeel.LOAD, 1, 2);
        Due.is("26 not on top of its stack", false, () -> x.can(0, 0));
        Due.is("26 on top of its stack", true, () -> x.can(1, 1));
        x.paper(1, 2);
        Due.is("26 held", false, () -> x.can(1, 0));
        x.paper(1, 2);
        x.pass(1);
        Due.is("26 the slot is not free", false, () -> x.can(0, 0));
        x.order(CargoHeel.LOAD, 1, 102);
        Due.is("26 on the ship already", false, () -> x.can(1, 0));
        Due.is("26 as many", 2, x::orders);
        Due.cleared(x, 10, 0, 0, 4);
        x.order(CargoHeel.LOAD, 2, 102);
        Due.is("26 not ahead", false, () -> x.can(2, 0));
        for (int bad : new int[] {Integer.MIN_VALUE, -1, 3, 20, Integer.MAX_VALUE}) {
            Due.isThrown(x, "26 order " + bad, OUT, () -> x.can(bad, 0));
        }
        for (int bad : new int[] {Integer.MIN_VALUE, -1, 2, Integer.MAX_VALUE}) {
            Due.isThrown(x, "26 crane " + bad, OUT, () -> x.can(0, bad));
        }
        x.leave();
        x.order(CargoHeel.LOAD, 0, 302);
        Due.is("26 gone", false, () -> x.can(0, 0));
    }

    private static void canLand() {
        Watched x = filled();
        for (int box = 0; box < 4; box++) x.order(CargoHeel.LAND, box, 0);
        Due.is("26 the lowest", false, () -> x.can(0, 0));
        Due.is("26 under the hatch", false, () -> x.can(1, 0));
        Due.is("26 under another one", false, () -> x.can(2, 0));
        Due.is("26 on top", true, () -> x.can(3, 0));
        x.paper(3, 0);
        Due.is("26 held on the ship", false, () -> x.can(3, 0));
        x.paper(3, 0);
        x.pass(1);
        Due.is("26 both on top are off", 2, x::orders);
        x.order(CargoHeel.OPEN, 4, 0);
        x.pass(1);
        Due.is("26 then the others", 0, x::orders);
        Due.is("26 the lowest on top now", 0, () -> x.inYard(0, 3));
        x.order(CargoHeel.LAND, 0, 1);
        Due.is("26 in the yard already", false, () -> x.can(0, 0));
    }

    private static void canShift() {
        Watched x = filled();
        x.paper(3, 0);
        x.order(CargoHeel.SHIFT, 3, 413);
        Due.is("26 to its own slot", false, () -> x.can(0, 0));
        x.order(CargoHeel.SHIFT, 3, 402);
        Due.is("26 a held one", true, () -> x.can(1, 0));
        x.order(CargoHeel.SHIFT, 2, 402);
        Due.is("26 one under another", false, () -> x.can(2, 0));
        x.order(CargoHeel.SHIFT, 1, 402);
        Due.is("26 one under a hatch", false, () -> x.can(3, 0));
        x.order(CargoHeel.SHIFT, 3, 403);
        Due.is("26 with nothing under it", false, () -> x.can(4, 0));
        x.drop(0);
        Due.is("26 it is shifted", 1, () -> x.pass(1));
        Due.is("26 to 402", 3, () -> x.at(402));
        Due.is("26 not onto itself", false, () -> x.can(2, 0));
        Due.cleared(x, 10, 6, 0, 0);
        x.order(CargoHeel.SHIFT, 4, 502);
        Due.is("26 from the yard", false, () -> x.can(x.orders() - 1, 0));
    }

    private static void canOpenAndShut() {
        Watched x = new Watched();
        Due.cleared(x, 10, 6, 0, 0);
        x.order(CargoHeel.OPEN, 2, 0);
        x.order(CargoHeel.SHUT, 2, 0);
        Due.is("26 to open a shut one", true, () -> x.can(0, 0));
        Due.is("26 to shut a shut one", false, () -> x.can(1, 0));
        x.jam(2, 1);
        Due.is("26 to open a jammed one", false, () -> x.can(0, 0));
        x.pass(1);
        x.crane(0, 0, 5, 1);
        x.crane(1, 0, 0, 1);
        x.pass(1);
        x.order(CargoHeel.OPEN, 2, 0);
        Due.is("26 to shut an open one", true, () -> x.can(0, 0));
        Due.is("26 to open an open one", false, () -> x.can(1, 0));
        x.pass(2);
        Due.is("26 open again", 1, () -> x.hatch(2));
        x.order(CargoHeel.SHUT, 2, 0);
        x.order(CargoHeel.LOAD, 0, 223);
        x.order(CargoHeel.LOAD, 0, 222);
        x.pass(2);
        x.drop(0);
        Due.is("26 a box on top", 0, () -> x.at(222));
        x.order(CargoHeel.OPEN, 2, 0);
        Due.is("26 to open one with a box on top", false, () -> x.can(0, 0));
        x.order(CargoHeel.OPEN, 1, 0);
        Due.is("26 to open the one beside it", true, () -> x.can(1, 0));
    }

    private static void canOpenBesideBoxes() {
        for (int place : new int[] {2, 12, 22}) {
            Watched x = new Watched();
            Due.cleared(x, 10, 6, 0, 0);
            x.order(CargoHeel.LOAD, 0, 300 + place);
            x.pass(1);
            for (int bay = 0; bay < 6; bay++) x.order(CargoHeel.OPEN, bay, 0);
            for (int bay = 0; bay < 6; bay++) {
                int its = bay;
                Due.is("26 with a box at " + (300 + place) + " to open " + bay, bay != 3, () -> x.can(its, 0));
            }
        }
    }

    private static void canWithinReach() {
        Watched x = new Watched();
        Due.cleared(x, 10, 6, 0, 0);
        x.crane(0, 0, 2, 4);
        x.crane(1, 2, 4, 4);
        x.order(CargoHeel.LOAD, 0, 202);
        Due.is("26 a load in both reaches", true, () -> x.can(0, 0) && x.can(0, 1));
        x.pass(1);
        x.order(CargoHeel.SHIFT, 0, 102);
        x.order(CargoHeel.SHIFT, 0, 302);
        x.order(CargoHeel.SHIFT, 0, 502);
        x.order(CargoHeel.LAND, 0, 5);
        Due.is("26 a shift to 1 by 0", true, () -> x.can(0, 0));
        Due.is("26 a shift to 1 by 1", false, () -> x.can(0, 1));
        Due.is("26 a shift to 3 by 0", false, () -> x.can(1, 0));
        Due.is("26 a shift to 3 by 1", true, () -> x.can(1, 1));
        Due.is("26 a shift out of all reaches", false, () -> x.can(2, 0) || x.can(2, 1));
        Due.is("26 a landing", true, () -> x.can(3, 0) && x.can(3, 1));
        x.crane(1, 3, 5, 4);
        Due.is("26 a shift from out of its reach", false, () -> x.can(1, 1));
        Due.is("26 a landing from out of its reach", false, () -> x.can(3, 1));
        Due.is("26 a landing from its reach", true, () -> x.can(3, 0));
    }

    private static void mayWeights() {
        Watched x = new Watched();
        Due.cleared(x, 10, 6, 0, 0);
        x.order(CargoHeel.LOAD, 0, 302);
        x.pass(1);
        x.box(15, 40, 6, 0, 0);
        x.box(16, 1, 6, 0, 1);
        Due.is("27 five more", true, () -> x.may(1, 303));
        Due.is("27 six more", false, () -> x.may(2, 303));
        Due.is("27 not free", false, () -> x.may(1, 302));
        Due.is("27 nothing under it", false, () -> x.may(1, 313));
        Due.is("27 on a hatch", true, () -> x.may(2, 312));
        for (int bad : FAR) Due.isThrown(x, "27 box " + bad, OUT, () -> x.may(bad, 0));
        Due.isThrown(x, "27 box 3", OUT, () -> x.may(3, 0));
        for (int bad : NO_SLOTS) Due.isThrown(x, "27 slot " + bad, OUT, () -> x.may(0, bad));
        x.leave();
        Due.is("27 a gone box by its weight", true, () -> x.may(1, 303));
    }

    private static void mayHatch() {
        Watched x = new Watched();
        x.box(10, 10, 0, 0, 0);
        Due.cleared(x, 1, 5, 0, 1);
        Due.is("27 shut, under it", false, () -> x.may(0, 10));
        Due.is("27 shut, on top", true, () -> x.may(0, 12));
        x.order(CargoHeel.OPEN, 0, 0);
        x.order(CargoHeel.LOAD, 1, 10);
        x.pass(1);
        Due.is("27 open, under it", true, () -> x.may(0, 20));
        Due.is("27 open, on top", false, () -> x.may(0, 12));
        Due.is("27 open, under it and on nothing", false, () -> x.may(0, 21));
        Due.is("27 open, on one that is too light", false, () -> x.may(0, 11));
        Due.is("27 with its plug away, plain", true, () -> x.may(0, 0));
        x.order(CargoHeel.SHUT, 0, 0);
        x.pass(1);
        Due.is("27 on a hatch, what is under it is not asked", true, () -> x.may(0, 12));
    }

    private static void mayPlugs() {
        Watched x = new Watched();
        x.box(10, 10, 5, CargoHeel.COLD, 0);
        x.box(10, 10, 5, CargoHeel.DANGER, 1);
        x.plug(202);
        Due.is("27 cold with a plug", true, () -> x.may(0, 202));
        Due.is("27 cold without a plug", false, () -> x.may(0, 212));
        Due.is("27 another kind with a plug", true, () -> x.may(1, 202));
        Due.is("27 another kind without a plug", true, () -> x.may(1, 212));
    }

    /** Each class on the ship in the bay 2, each class asked for each bay. */
    private static void mayDanger() {
        for (int there = 2; there <= 4; there++) {
            Watched x = new Watched();
            Due.cleared(x, 10, 5, there, 0);
            for (int kind = 0; kind <= 4; kind++) x.box(10, 10, 5, kind, 1 + kind);
            for (int bay = 0; bay < 6; bay++) x.plug(100 * bay + 22);
            for (int kind = 0; kind <= 4; kind++) {
                int box = 1 + kind;
                Due.is("27 none on the ship", true, () -> x.may(box, 222));
            }
            x.order(CargoHeel.LOAD, 0, 202);
            x.pass(1);
            for (int kind = 0; kind <= 4; kind++) {
                for (int bay = 0; bay < 6; bay++) {
                    int far = Math.abs(bay - 2);
                    boolean clash = far == 0 && kind != there || far == 1 && (kind == 4 || there == 4);
                    int box = 1 + kind;
                    int slot = 100 * bay + 22;
                    Due.is("27 " + kind + " to bay " + bay + " with " + there + " in 2", kind < 2 || !clash,
                        () -> x.may(box, slot));
                }
            }
        }
    }

    private static void mayAsIfNotOnTheShip() {
        Watched x = new Watched();
        Due.cleared(x, 10, 5, 4, 0);
        x.order(CargoHeel.LOAD, 0, 202);
        x.pass(1);
        Due.is("27 its own slot", true, () -> x.may(0, 202));
        Due.is("27 on itself", false, () -> x.may(0, 203));
        Due.is("27 beside its own bay", true, () -> x.may(0, 302));
        Due.is("27 in its own bay", true, () -> x.may(0, 212));
        Watched y = filled();
        Due.is("27 its own slot under a hatch", false, () -> y.may(0, 410));
        Due.is("27 its own slot under another one", true, () -> y.may(2, 412));
        Due.is("27 its own slot on another one", true, () -> y.may(3, 413));
        Due.is("27 that of the one on it", false, () -> y.may(2, 413));
    }
}
