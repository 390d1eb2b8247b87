import java.util.Random;

/** Runs of 512 random calls, right and wrong ones, each answered by the class and by the model. */
public final class RandomRuns {
    private static final int RUNS = 400;
    private static final int CALLS = 512;
    private static final int[] FAR = {Integer.MIN_VALUE, Integer.MIN_VALUE + 1, -100, -2, -1, 4, 6, 10, 20, 30, 40, 41,
        60, 99, 100, 104, 130, 524, 600, 2001, 10000, Integer.MAX_VALUE - 1, Integer.MAX_VALUE};

    private final Random random;
    private final CargoHeel x = new CargoHeel();
    private final Model model = new Model();
    private int boxes = 0;

    private RandomRuns(long seed) {
        random = new Random(seed);
    }

    public static void main(String[] args) {
        int[] lifts = new int[5];
        int putBack = 0;
        int ports = 0;
        for (int run = 0; run < RUNS; run++) {
            RandomRuns it = new RandomRuns(run);
            it.run("run " + run + " ");
            for (int what = 0; what < 5; what++) lifts[what] += it.model.lifts[what];
            putBack += it.model.putBack;
            ports += it.model.port();
        }
        for (int what = 0; what < 5; what++) {
            int done = lifts[what];
            Due.is("lifts of the kind " + what + " are done in plenty", true, () -> done > RUNS);
        }
        int back = putBack;
        int left = ports;
        Due.is("boxes stay where they were at times", true, () -> back > RUNS / 4);
        Due.is("ports are left in plenty", true, () -> left > RUNS);
        System.out.println("loads " + lifts[0] + ", landings " + lifts[1] + ", shifts " + lifts[2] + ", put back "
            + putBack + ", ports " + ports);
        Due.end();
    }

    private void run(String name) {
        boolean wide = random.nextInt(4) > 0;
        if (wide) bounds(name, 2000, 2000, 9999);
        for (int call = 0; call < CALLS; call++) {
            String head = name + "call " + call + ": ";
            if (random.nextInt(3) > 0) change(head);
            else ask(head);
            if (call % 32 == 31) compareAll(head);
        }
    }

    private int below(int bound) {
        return random.nextInt(bound);
    }

    /** Mostly the number, at times one that is out of most ranges. */
    private int or(int number) {
        return below(60) == 0 ? FAR[below(FAR.length)] : number;
    }

    private int slot() {
        int under = knownBox();
        if (below(3) == 0 && model.of(under, 4).equals(CargoHeel.SHIP)) return (Integer) model.of(under, 5) + 1;
        int tier = below(3) == 0 ? below(4) : below(2) + 2;
        return or(100 * below(6) + 10 * below(3) + tier);
    }

    private int knownBox() {
        // The latest boxes are the ones that can still be done something with.
        return or(boxes == 0 ? 0 : Math.max(boxes - 1 - below(below(3) == 0 ? boxes : Math.min(boxes, 12)), 0));
    }

    private void bounds(String head, int trim, int heel, int bending) {
        Due.is(head + "bounds", model.bounds(trim, heel, bending), () -> {
            x.bounds(trim, heel, bending);
            return 0;
        });
    }

    private void change(String head) {
        int what = below(100);
        if (what < 16) box(head);
        else if (what < 19) paper(head, knownBox(), or(below(3)));
        else if (what < 62) order(head);
        else if (what < 82) pass(head);
        else if (what < 90) leave(head);
        else changeShip(head, below(8));
    }

    private void changeShip(String head, int what) {
        int bay = or(below(6));
        int number = or(below(100));
        int slot = slot();
        switch (what) {
            case 0: {
                Due.is(head + "tank " + bay + " " + number, model.tank(bay, number), () -> x.tank(bay, number));
                break;
            }
            case 1: {
                int hours = or(1 + below(4) * below(5));
                Due.is(head + "jam " + bay + " " + hours, model.jam(bay, hours), () -> x.jam(bay, hours));
                break;
            }
            case 2: {
                int crane = or(below(2));
                int from = or(below(3));
                int to = or(3 + below(3));
                int lifts = or(1 + below(4));
                Due.is(head + "crane " + crane + " " + from + " " + to + " " + lifts,
                    model.crane(crane, from, to, lifts), () -> {
                        x.crane(crane, from, to, lifts);
                        return 0;
                    });
                break;
            }
            case 3: {
                int port = or(below(10));
                Due.is(head + "skip " + port, model.skip(port), () -> x.skip(port));
                break;
            }
            case 4: {
                int order = or(below(5));
                Due.is(head + "drop " + order, model.drop(order), () -> x.drop(order));
                break;
            }
            case 5: {
                if (below(4) == 0) bounds(head, or(below(400)), or(below(60)), or(below(900)));
                else bounds(head, or(2000), or(2000), or(9999));
                break;
            }
            default: {
                Due.is(head + "plug " + slot, model.plug(slot), () -> x.plug(slot) ? 1 : 0);
            }
        }
    }

    private void box(String head) {
        int weight = or(1 + below(below(2) == 0 ? 12 : 40));
        int truth = below(2) == 0 ? or(1 + below(40)) : weight;
        int port = or(below(3) == 0 ? below(10) : Math.min(9, x.port() + 1 + below(3)));
        int kind = or(below(3) == 0 ? below(5) : 0);
        int stack = or(below(10));
        Object due = model.box(weight, truth, port, kind, stack);
        Due.is(head + "box " + weight + " " + truth + " " + port + " " + kind + " " + stack, due,
            () -> x.box(weight, truth, port, kind, stack));
        if (!(due instanceof Integer)) return;
        boxes++;
        if (below(5) == 0) return;
        for (int paper = 0; paper < 3; paper++) paper(head, boxes - 1, paper);
    }

    private void paper(String head, int box, int paper) {
        Due.is(head + "paper " + box + " " + paper, model.paper(box, paper), () -> x.paper(box, paper) ? 1 : 0);
    }

    private void order(String head) {
        if (x.orders() > 10) {
            int dropped = below(8);
            Due.is(head + "drop " + dropped, model.drop(dropped), () -> x.drop(dropped));
        }
        int what = 0;
        int its = 0;
        int place = 0;
        // Most orders at random cannot be done, so some more are thrown away ahead of one that is put.
        for (int i = below(30); i >= 0; i--) {
            what = or(new int[] {0, 0, 0, 0, 1, 1, 1, 2, 2, 3, 4, 4}[below(12)]);
            its = what == CargoHeel.OPEN || what == CargoHeel.SHUT ? or(below(6)) : knownBox();
            place = what == CargoHeel.LAND ? or(below(10)) : slot();
            if (model.couldDo(what, its, place)) break;
        }
        order(head, what, its, place);
    }

    private void order(String head, int what, int its, int place) {
        Due.is(head + "order " + what + " " + its + " " + place, model.order(what, its, place),
            () -> x.order(what, its, place));
    }

    private void pass(String head) {
        int hours = or(below(9) == 0 ? 1 + below(24) : 1 + below(2));
        Due.is(head + "pass " + hours, model.pass(hours), () -> x.pass(hours));
    }

    private void leave(String head) {
        if (below(3) == 0) return;
        Due.is(head + "leave", model.leave(), x::leave);
    }

    private void ask(String head) {
        int box = knownBox();
        int slot = slot();
        int small = or(below(8));
        int other = or(below(3));
        switch (below(14)) {
            case 0: Due.is(head + "of " + box + " " + small, model.of(box, small), () -> x.of(box, small)); break;
            case 1: Due.is(head + "at " + slot, model.at(slot), () -> x.at(slot)); break;
            case 2: Due.is(head + "inYard " + small + " " + other, model.inYard(small, other),
                () -> x.inYard(small, other)); break;
            case 3: Due.is(head + "hatch " + small, model.hatch(small), () -> x.hatch(small)); break;
            case 4: Due.is(head + "moment " + small, model.moment(small), () -> x.moment(small)); break;
            case 5: Due.is(head + "momentAnew " + small, model.moment(small), () -> x.momentAnew(small)); break;
            case 6: Due.is(head + "dig " + box, model.dig(box), () -> x.dig(box)); break;
            case 7: Due.is(head + "can " + small + " " + other, model.can(small, other),
                () -> x.can(small, other) ? 1 : 0); break;
            case 8: Due.is(head + "may " + box + " " + slot, model.may(box, slot), () -> x.may(box, slot) ? 1 : 0); break;
            case 9: Due.is(head + "hour", model.hour(), x::hour); break;
            case 10: Due.is(head + "port", model.port(), x::port); break;
            case 11: Due.is(head + "cost", model.cost(), x::cost); break;
            case 12: Due.is(head + "bars", model.bars(), x::bars); break;
            default: Due.is(head + "orders", model.orders(), x::orders);
        }
    }

    private void compareAll(String head) {
        Due.is(head + "boxes", boxes, () -> Due.boxesOf(x));
        Due.is(head + "cost", model.cost(), x::cost);
        Due.is(head + "hour", model.hour(), x::hour);
        Due.is(head + "port", model.port(), x::port);
        Due.is(head + "orders", model.orders(), x::orders);
        Due.is(head + "bars", model.bars(), x::bars);
        for (int i = 0; i < 7; i++) {
            int what = i;
            Due.is(head + "moment " + i, model.moment(what), () -> x.moment(what));
            Due.is(head + "momentAnew " + i, model.moment(what), () -> x.momentAnew(what));
            Due.is(head + "hatch " + i, model.hatch(what), () -> x.hatch(what));
        }
        for (int i = 0; i < 40; i++) {
            int stack = i / 4;
            int place = i % 4;
            Due.is(head + "inYard " + stack + " " + place, model.inYard(stack, place), () -> x.inYard(stack, place));
            int order = i / 2;
            int crane = i % 2;
            Due.is(head + "can " + order + " " + crane, model.can(order, crane), () -> x.can(order, crane) ? 1 : 0);
        }
        for (int i = 0; i < boxes; i++) {
            int box = i;
            for (int j = 0; j < 7; j++) {
                int what = j;
                Due.is(head + "of " + box + " " + what, model.of(box, what), () -> x.of(box, what));
            }
            Due.is(head + "dig " + box, model.dig(box), () -> x.dig(box));
        }
        for (int i = 0; i < 72; i++) {
            int slot = 100 * (i / 12) + 10 * (i / 4 % 3) + i % 4;
            Due.is(head + "at " + slot, model.at(slot), () -> x.at(slot));
            for (int j = 0; j < boxes; j += 7) {
                int box = j;
                Due.is(head + "may " + box + " " + slot, model.may(box, slot), () -> x.may(box, slot) ? 1 : 0);
            }
        }
    }
}
