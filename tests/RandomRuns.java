import java.util.Random;

/** Runs of random calls, right and wrong ones, each answered by the class and by the model. */
public final class RandomRuns {
    private static final int RUNS = 400;
    private static final int LOOKS = 3;
    private static final int[] FAR = {Integer.MIN_VALUE, Integer.MIN_VALUE + 1, -100, -2, -1, 4, 6, 10, 20, 30, 40, 41,
        60, 99, 100, 104, 130, 524, 600, 2001, 10000, Integer.MAX_VALUE - 1, Integer.MAX_VALUE};

    private final String name;
    private final Random random;
    private final Watched x = new Watched();
    private final Model model = new Model();

    private RandomRuns(int seed) {
        name = "run " + seed;
        random = new Random(seed);
    }

    public static void main(String[] args) {
        int[] lifts = new int[5];
        int putBack = 0;
        int ports = 0;
        for (int run = 0; run < RUNS; run++) {
            RandomRuns it = new RandomRuns(run);
            // An object may be used for 512 calls: some runs use them all, the others are looked at in full.
            it.run(run % 3 == 0 ? Watched.MOST_CALLS : 200 + run % 150);
            for (int what = 0; what < 5; what++) lifts[what] += it.model.lifts[what];
            putBack += it.model.putBack;
            ports += it.model.ports;
        }
        for (int what = 0; what < 5; what++) {
            Due.equal("lifts of the kind " + what + " are done in plenty", true, lifts[what] > RUNS);
        }
        Due.equal("boxes stay where they were at times", true, putBack > RUNS / 8);
        Due.equal("ports are left in plenty", true, ports > RUNS);
        System.out.println("loads " + lifts[0] + ", landings " + lifts[1] + ", shifts " + lifts[2] + ", put back "
            + putBack + ", ports " + ports);
        Due.end();
    }

    private void run(int calls) {
        if (below(4) > 0) step("bounds", 2000, 2000, 9999);
        int look = calls / LOOKS;
        while (x.calls() < calls) {
            if (below(3) > 0) change(calls);
            else ask();
            if (x.calls() >= look && x.calls() < calls) {
                compareAll();
                look += calls / LOOKS;
            }
        }
        compareAll();
    }

    private Object step(String call, int... args) {
        Object due = model.answer(new Call(call, args));
        Object got = Due.answerOf(() -> x.ask(call, args));
        Due.equal(() -> name + ", call " + x.calls() + ": " + new Call(call, args), due, got);
        return due;
    }

    private Object known(String question, int... args) {
        return model.answer(new Call(question, args));
    }

    private int below(int bound) {
        return random.nextInt(bound);
    }

    /** Mostly the number, at times one that is out of most ranges. */
    private int or(int number) {
        return below(60) == 0 ? FAR[below(FAR.length)] : number;
    }

    private int slot() {
        int under = box();
        if (below(3) == 0 && known("of", under, 4).equals(CargoHeel.SHIP)) return (Integer) known("of", under, 5) + 1;
        int tier = below(3) == 0 ? below(4) : below(2) + 2;
        return or(100 * below(6) + 10 * below(3) + tier);
    }

    private int box() {
        // The latest boxes are the ones that can still be done something with.
        int boxes = x.boxes();
        return or(boxes == 0 ? 0 : Math.max(boxes - 1 - below(below(3) == 0 ? boxes : Math.min(boxes, 12)), 0));
    }

    private void change(int calls) {
        int what = below(100);
        if (what < 16 && x.calls() < calls - 4) comes();
        else if (what < 19) step("paper", box(), or(below(3)));
        else if (what < 62 && x.calls() < calls - 1) order();
        else if (what < 82) step("pass", or(below(9) == 0 ? 1 + below(24) : 1 + below(2)));
        else if (what < 87) step("leave");
        else changeShip(below(8));
    }

    private void changeShip(int what) {
        switch (what) {
            case 0 -> step("tank", or(below(6)), or(below(100)));
            case 1 -> step("jam", or(below(6)), or(1 + below(4) * below(5)));
            case 2 -> step("crane", or(below(2)), or(below(3)), or(3 + below(3)), or(1 + below(4)));
            case 3 -> step("skip", or(below(10)));
            case 4 -> step("drop", or(below(5)));
            case 5 -> {
                if (below(4) == 0) step("bounds", or(below(400)), or(below(60)), or(below(900)));
                else step("bounds", or(2000), or(2000), or(9999));
            }
            default -> step("plug", slot());
        }
    }

    private void comes() {
        int weight = or(1 + below(below(2) == 0 ? 12 : 40));
        int truth = below(3) > 0 ? or(1 + below(40)) : weight;
        int port = or(below(3) == 0 ? below(10) : Math.min(9, (Integer) known("port") + 1 + below(3)));
        int kind = or(below(3) == 0 ? below(5) : 0);
        Object due = step("box", weight, truth, port, kind, or(below(10)));
        if (!(due instanceof Integer) || below(5) == 0) return;
        for (int paper = 0; paper < 3; paper++) step("paper", x.boxes() - 1, paper);
    }

    private void order() {
        if ((Integer) known("orders") > 10 && below(10) > 0) step("drop", below(8));
        int what = 0;
        int its = 0;
        int place = 0;
        // Most orders at random cannot be done, so some more are thrown away ahead of one that is put.
        for (int i = below(30); i >= 0; i--) {
            what = or(new int[] {0, 0, 0, 0, 1, 1, 1, 2, 2, 3, 4, 4}[below(12)]);
            its = what == CargoHeel.OPEN || what == CargoHeel.SHUT ? or(below(6)) : box();
            place = what == CargoHeel.LAND ? or(below(10)) : slot();
            if (model.couldDo(what, its, place)) break;
        }
        step("order", what, its, place);
    }

    private void ask() {
        switch (below(14)) {
            case 0 -> step("of", box(), or(below(7)));
            case 1 -> step("at", slot());
            case 2 -> step("inYard", or(below(10)), or(below(5)));
            case 3 -> step("hatch", or(below(6)));
            case 4 -> step("moment", or(below(7)));
            case 5 -> step("momentAnew", or(below(7)));
            case 6 -> step("dig", box());
            case 7 -> step("can", or(below(8)), or(below(2)));
            case 8 -> step("may", box(), slot());
            case 9 -> step("hour");
            case 10 -> step("port");
            case 11 -> step("cost");
            case 12 -> step("bars");
            default -> step("orders");
        }
    }

    /** All questions, asked of fresh objects that were led by the same calls. */
    private void compareAll() {
        Questions fresh = new Questions(x.callsBut(0), Watched.MOST_CALLS - x.calls());
        for (Call question : Picture.questions(x.boxes())) {
            if (!fresh.haveRoom()) return;
            Due.equal(() -> name + ", after " + x.calls() + " calls: " + question, model.answer(question).toString(),
                fresh.answer(question));
        }
    }
}
