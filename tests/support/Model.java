import java.util.ArrayList;
import java.util.List;

/**
 * A second CargoHeel to compare with, which keeps a list of boxes and counts all else anew.
 * A call answers a number (a boolean 1 or 0), or the name of the exception that is due.
 */
final class Model {
    private static final String OUT = "throws.IndexOutOfBoundsException";
    private static final String ARGUMENT = "throws.IllegalArgumentException";
    private static final String STATE = "throws.IllegalStateException";

    private static final class Box {
        int told, truth, port, kind, where, bay, row, tier, stack;
        final boolean[] paper = new boolean[3];

        boolean held() {
            return !(paper[0] && paper[1] && paper[2]);
        }

        boolean isAt(int itsBay, int itsRow, int itsTier) {
            return where == 1 && bay == itsBay && row == itsRow && tier == itsTier;
        }
    }

    private record Order(int what, int its, int place) {
    }

    /** What happened, so that a test can see that its runs reach it. */
    final int[] lifts = new int[5];
    int putBack = 0;
    int ports = 0;

    private final List<Box> boxes = new ArrayList<>();
    /** The boxes of the yard as they came to lie there. */
    private final List<Box> yard = new ArrayList<>();
    private final List<Order> waiting = new ArrayList<>();
    private final boolean[] open = new boolean[6];
    private final int[] jammedTill = new int[6];
    private final int[] water = new int[6];
    private final boolean[][][] plugs = new boolean[6][3][4];
    private final boolean[] leftOut = new boolean[10];
    private final int[][] cranes = {{0, 5, 2}, {0, 5, 2}};
    private final int[] bound = {400, 60, 900};
    private int hour = 0;
    private int port = 0;
    private int cost = 0;

    /** What is due for a call of the face. */
    Object answer(Call call) {
        int[] a = call.args();
        return switch (call.name()) {
            case "plug" -> plug(a[0]);
            case "bounds" -> bounds(a[0], a[1], a[2]);
            case "tank" -> tank(a[0], a[1]);
            case "jam" -> jam(a[0], a[1]);
            case "crane" -> crane(a[0], a[1], a[2], a[3]);
            case "box" -> box(a[0], a[1], a[2], a[3], a[4]);
            case "paper" -> paper(a[0], a[1]);
            case "skip" -> skip(a[0]);
            case "order" -> order(a[0], a[1], a[2]);
            case "drop" -> drop(a[0]);
            case "pass" -> pass(a[0]);
            case "leave" -> leave();
            case "hour" -> hour;
            case "port" -> port;
            case "cost" -> cost;
            case "of" -> of(a[0], a[1]);
            case "at" -> at(a[0]);
            case "inYard" -> inYard(a[0], a[1]);
            case "hatch" -> hatch(a[0]);
            case "moment", "momentAnew" -> moment(a[0]);
            case "bars" -> bars();
            case "dig" -> dig(a[0]);
            case "orders" -> waiting.size();
            case "can" -> can(a[0], a[1]);
            case "may" -> may(a[0], a[1]);
            default -> throw new AssertionError(call + " is no call of the face");
        };
    }

    private static boolean in(int number, int least, int most) {
        return least <= number && number <= most;
    }

    private static boolean slot(int slot) {
        return slot >= 0 && slot / 100 <= 5 && slot % 100 / 10 <= 2 && slot % 10 <= 3;
    }

    private boolean known(int box) {
        return in(box, 0, boxes.size() - 1);
    }

    private Box on(int bay, int row, int tier) {
        for (Box b : boxes) if (b.isAt(bay, row, tier)) return b;
        return null;
    }

    private List<Box> stack(int stack) {
        List<Box> its = new ArrayList<>();
        for (Box b : yard) if (b.stack == stack) its.add(b);
        return its;
    }

    private boolean onTop(int bay) {
        for (Box b : boxes) if (b.where == 1 && b.bay == bay && b.tier > 1) return true;
        return false;
    }

    private boolean ahead(int there) {
        return there > port && !leftOut[there];
    }

    private Object plug(int slot) {
        if (!slot(slot)) return OUT;
        int bay = slot / 100, row = slot % 100 / 10, tier = slot % 10;
        Box b = on(bay, row, tier);
        if (b != null && b.kind == 1) return STATE;
        plugs[bay][row][tier] = !plugs[bay][row][tier];
        return plugs[bay][row][tier] ? 1 : 0;
    }

    private Object bounds(int trim, int heel, int bending) {
        if (!in(trim, 0, 2000) || !in(heel, 0, 2000) || !in(bending, 0, 9999)) return ARGUMENT;
        bound[0] = trim;
        bound[1] = heel;
        bound[2] = bending;
        return 0;
    }

    private Object tank(int bay, int full) {
        if (!in(bay, 0, 5)) return OUT;
        if (!in(full, 0, 99)) return ARGUMENT;
        int before = water[bay];
        water[bay] = full;
        return before;
    }

    private Object jam(int bay, int hours) {
        if (!in(bay, 0, 5)) return OUT;
        if (!in(hours, 1, 50)) return ARGUMENT;
        if (hour + hours > jammedTill[bay]) jammedTill[bay] = hour + hours;
        return jammedTill[bay];
    }

    private Object crane(int crane, int from, int to, int lifts) {
        if (!in(crane, 0, 1)) return OUT;
        if (!in(from, 0, 5) || !in(to, from, 5) || !in(lifts, 1, 4)) return ARGUMENT;
        cranes[crane] = new int[] {from, to, lifts};
        return 0;
    }

    private boolean stackable(Box b, int stack) {
        List<Box> its = stack(stack);
        if (its.size() == 4) return false;
        return its.isEmpty() || b.told - its.get(its.size() - 1).told <= 5;
    }

    private Object box(int weight, int truth, int itsPort, int kind, int stack) {
        if (!in(itsPort, 0, 9) || !in(stack, 0, 9)) return OUT;
        if (!in(weight, 1, 40) || !in(truth, 1, 40) || !in(kind, 0, 4)) return ARGUMENT;
        Box b = new Box();
        b.told = weight;
        b.truth = truth;
        b.port = itsPort;
        b.kind = kind;
        b.stack = stack;
        if (boxes.size() == 60 || !stackable(b, stack)) return STATE;
        boxes.add(b);
        yard.add(b);
        return boxes.size() - 1;
    }

    private Object paper(int box, int paper) {
        if (!known(box) || !in(paper, 0, 2)) return OUT;
        Box b = boxes.get(box);
        b.paper[paper] = !b.paper[paper];
        return b.held() ? 1 : 0;
    }

    private int behind(int there) {
        do there++; while (there < 9 && leftOut[there]);
        return there;
    }

    private Object skip(int out) {
        if (!in(out, 1, 8)) return OUT;
        if (!ahead(out)) return STATE;
        leftOut[out] = true;
        int moved = 0;
        for (Box b : boxes) {
            if (b.where == 2 || b.port != out) continue;
            b.port = behind(out);
            moved++;
        }
        return moved;
    }

    private Object order(int what, int its, int place) {
        if (!in(what, 0, 4)) return ARGUMENT;
        if (what > 2 ? !in(its, 0, 5) : !known(its) || (what == 1 ? !in(place, 0, 9) : !slot(place))) return OUT;
        if (waiting.size() == 20) return STATE;
        waiting.add(new Order(what, its, place));
        return waiting.size();
    }

    private Object drop(int order) {
        if (!in(order, 0, waiting.size() - 1)) return OUT;
        waiting.remove(order);
        return waiting.size();
    }

    private boolean allowed(Box b, int slot) {
        int bay = slot / 100, row = slot % 100 / 10, tier = slot % 10;
        int where = b.where;
        b.where = 2;
        boolean allowed = on(bay, row, tier) == null && open[bay] == tier < 2;
        if (tier == 1 || tier == 3) {
            Box under = on(bay, row, tier - 1);
            allowed &= under != null && b.told <= under.told + 5;
        }
        if (b.kind == 1) allowed &= plugs[bay][row][tier];
        for (Box o : boxes) {
            if (b.kind < 2 || o.kind < 2 || o.where != 1) continue;
            if (o.bay == bay) allowed &= o.kind == b.kind;
            if (o.bay == bay - 1 || o.bay == bay + 1) allowed &= o.kind != 4 && b.kind != 4;
        }
        b.where = where;
        return allowed;
    }

    private boolean takeable(Box b) {
        if (b.where != 1) return false;
        if (b.tier % 2 == 0 && on(b.bay, b.row, b.tier + 1) != null) return false;
        return b.tier > 1 || open[b.bay];
    }

    private boolean reach(int crane, int bay) {
        return in(bay, cranes[crane][0], cranes[crane][1]);
    }

    private boolean doable(Order o, int crane) {
        if (o.what == 3) return reach(crane, o.its) && !open[o.its] && !onTop(o.its) && hour >= jammedTill[o.its];
        if (o.what == 4) return reach(crane, o.its) && open[o.its];
        Box b = boxes.get(o.its);
        if (o.what == 0) {
            if (b.where != 0 || b.held() || !ahead(b.port) || !reach(crane, o.place / 100)) return false;
            List<Box> its = stack(b.stack);
            return its.get(its.size() - 1) == b && allowed(b, o.place);
        }
        if (!takeable(b) || !reach(crane, b.bay)) return false;
        if (o.what == 1) return !b.held() && stackable(b, o.place);
        return reach(crane, o.place / 100) && o.place != 100 * b.bay + 10 * b.row + b.tier && allowed(b, o.place);
    }

    /** Whether the crane 0 could do such an order now, if there were one. */
    boolean couldDo(int what, int its, int place) {
        if (!(order(what, its, place) instanceof Integer)) return false;
        Order o = waiting.remove(waiting.size() - 1);
        return doable(o, 0);
    }

    private void lift(Order o) {
        cost += 10;
        lifts[o.what]++;
        if (o.what > 2) {
            open[o.its] = o.what == 3;
            return;
        }
        Box b = boxes.get(o.its);
        b.told = b.truth;
        if (o.what == 1 ? !stackable(b, o.place) : !allowed(b, o.place)) {
            putBack++;
            return;
        }
        yard.remove(b);
        if (o.what == 1) {
            b.where = 0;
            b.stack = o.place;
            yard.add(b);
        } else {
            b.where = 1;
            b.bay = o.place / 100;
            b.row = o.place % 100 / 10;
            b.tier = o.place % 10;
        }
    }

    private Object pass(int hours) {
        if (!in(hours, 1, 24)) return ARGUMENT;
        if (hour + hours > 1000) return STATE;
        int done = 0;
        for (int end = hour + hours; hour < end; hour++) {
            for (int crane = 0; crane < 2; crane++) {
                for (int lift = 0; lift < cranes[crane][2]; lift++) {
                    for (Order o : waiting) {
                        if (doable(o, crane)) {
                            lift(o);
                            waiting.remove(o);
                            done++;
                            break;
                        }
                    }
                }
            }
            cost += 25;
            for (Box b : yard) if (!ahead(b.port)) cost++;
        }
        return done;
    }

    private Object leave() {
        if (bars() != 0) return STATE;
        for (Box b : yard) b.where = 2;
        yard.clear();
        waiting.clear();
        port = behind(port);
        ports++;
        return port;
    }

    private Object of(int box, int what) {
        if (!known(box)) return OUT;
        if (!in(what, 0, 6)) return ARGUMENT;
        Box b = boxes.get(box);
        int slot = 100 * b.bay + 10 * b.row + b.tier;
        int place = b.where == 0 ? b.stack : b.where == 1 ? slot : -1;
        return new int[] {b.told, b.port, b.kind, b.held() ? 1 : 0, b.where, place, over(b)}[what];
    }

    private int over(Box b) {
        if (b.where == 2) return 0;
        if (b.where == 1) return b.tier % 2 == 0 && on(b.bay, b.row, b.tier + 1) != null ? 1 : 0;
        List<Box> its = stack(b.stack);
        return its.size() - 1 - its.indexOf(b);
    }

    private Object at(int slot) {
        if (!slot(slot)) return OUT;
        return boxes.indexOf(on(slot / 100, slot % 100 / 10, slot % 10));
    }

    private Object inYard(int stack, int place) {
        if (!in(stack, 0, 9) || place < 0) return OUT;
        List<Box> its = stack(stack);
        return place < its.size() ? boxes.indexOf(its.get(place)) : -1;
    }

    private Object hatch(int bay) {
        if (!in(bay, 0, 5)) return OUT;
        return (open[bay] ? 1 : 0) + (hour < jammedTill[bay] ? 2 : 0);
    }

    private Object moment(int what) {
        if (!in(what, 0, 6)) return ARGUMENT;
        int[] load = water.clone();
        int heel = 0;
        for (Box b : boxes) {
            if (b.where != 1) continue;
            load[b.bay] += b.truth;
            heel += b.truth * (b.row - 1);
        }
        if (what == 6) return heel;
        int trim = 0, below = 0, all = 0;
        for (int bay = 0; bay < 6; bay++) {
            trim += load[bay] * (2 * bay - 5);
            all += load[bay];
            if (bay < what) below += load[bay];
        }
        return what == 0 ? trim : 6 * below - what * all;
    }

    private boolean past(int what, int its) {
        int number = (Integer) moment(what);
        return number > bound[its] || number < -bound[its];
    }

    private int bars() {
        int bars = port == 9 ? 32 : 0;
        for (boolean o : open) if (o) bars |= 1;
        if (past(0, 0)) bars |= 2;
        if (past(6, 1)) bars |= 4;
        for (int cut = 1; cut <= 5; cut++) if (past(cut, 2)) bars |= 8;
        for (Box b : boxes) if (b.where == 1 && b.port == port) bars |= 16;
        return bars;
    }

    private Object dig(int box) {
        if (!known(box)) return OUT;
        Box its = boxes.get(box);
        if (its.where != 1) return STATE;
        int count = 0;
        for (Box b : boxes) {
            if (b.where != 1 || b.bay != its.bay) continue;
            if (b.row == its.row && b.tier > its.tier || its.tier < 2 && b.tier > 1) count++;
        }
        return count;
    }

    private Object can(int order, int crane) {
        if (!in(order, 0, waiting.size() - 1) || !in(crane, 0, 1)) return OUT;
        return doable(waiting.get(order), crane) ? 1 : 0;
    }

    private Object may(int box, int slot) {
        if (!known(box) || !slot(slot)) return OUT;
        return allowed(boxes.get(box), slot) ? 1 : 0;
    }
}
