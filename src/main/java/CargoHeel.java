/** A container ship, its yard and its papers on one state. */
public final class CargoHeel {
    public static final int NONE = -1;
    public static final int PLAIN = 0, COLD = 1, DANGER = 2;
    public static final int YARD = 0, SHIP = 1, GONE = 2;
    public static final int LOAD = 0, LAND = 1, SHIFT = 2, OPEN = 3, SHUT = 4;

    private static final int BAYS = 6;
    private static final int ROWS = 3;
    private static final int TIERS = 4;
    private static final int FIRST_TIER_ON_TOP = 2;
    private static final int STACKS = 10;
    private static final int STACK_ROOM = 4;
    private static final int CRANES = 2;
    private static final int LAST_PORT = 9;
    private static final int MOST_BOXES = 60;
    private static final int MOST_ORDERS = 20;
    private static final int MOST_WEIGHT = 40;
    private static final int MOST_KIND = 4;
    private static final int PAPERS = 3;
    private static final int ALL_PAPERS = 7;
    private static final int LAST_HOUR = 1000;
    private static final int HEEL = 6;

    private final Boxes boxes;
    private final Yard yard;
    private final Ship ship;
    private final Queue queue;
    private final Cranes cranes;
    private final Row leftOut;
    private int hour;
    private int port;
    private int paid;
    private int trimBound;
    private int heelBound;
    private int bendingBound;

    public CargoHeel() {
        boxes = new Boxes();
        yard = new Yard();
        ship = new Ship();
        queue = new Queue();
        cranes = new Cranes();
        leftOut = new Row(LAST_PORT + 1, 0);
        trimBound = 400;
        heelBound = 60;
        bendingBound = 900;
    }

    // ---- the ship

    public boolean plug(int slot) throws IndexOutOfBoundsException, IllegalStateException {
        if (!isSlot(slot)) throw new IndexOutOfBoundsException("no such slot");
        int box = ship.boxIn(slot);
        if (box != NONE && boxes.kind.get(box) == COLD) throw new IllegalStateException("a cold box is there");
        ship.turnPlug(slot);
        return ship.hasPlug(slot);
    }

    public void bounds(int trim, int heel, int bending) throws IllegalArgumentException {
        if (!isWithin(trim, 0, 2000) || !isWithin(heel, 0, 2000) || !isWithin(bending, 0, 9999)) {
            throw new IllegalArgumentException("a bound is out of range");
        }
        trimBound = trim;
        heelBound = heel;
        bendingBound = bending;
    }

    public int tank(int bay, int water) throws IndexOutOfBoundsException, IllegalArgumentException {
        if (!isBay(bay)) throw new IndexOutOfBoundsException("no such bay");
        if (!isWithin(water, 0, 99)) throw new IllegalArgumentException("water is out of range");
        int before = ship.water.get(bay);
        ship.water.set(bay, water);
        ship.load.add(bay, water - before);
        return before;
    }

    public int jam(int bay, int hours) throws IndexOutOfBoundsException, IllegalArgumentException {
        if (!isBay(bay)) throw new IndexOutOfBoundsException("no such bay");
        if (!isWithin(hours, 1, 50)) throw new IllegalArgumentException("hours is out of range");
        int till = Math.max(ship.jammedTill.get(bay), hour + hours);
        ship.jammedTill.set(bay, till);
        return till;
    }

    public void crane(int crane, int from, int to, int lifts)
            throws IndexOutOfBoundsException, IllegalArgumentException {
        if (!isCrane(crane)) throw new IndexOutOfBoundsException("no such crane");
        if (!isBay(from) || !isBay(to) || from > to) throw new IllegalArgumentException("the reach is out of range");
        if (!isWithin(lifts, 1, 4)) throw new IllegalArgumentException("lifts is out of range");
        cranes.from.set(crane, from);
        cranes.to.set(crane, to);
        cranes.lifts.set(crane, lifts);
    }

    // ---- boxes, papers, ports

    public int box(int weight, int truth, int port, int kind, int stack)
            throws IndexOutOfBoundsException, IllegalArgumentException, IllegalStateException {
        if (!isWithin(port, 0, LAST_PORT)) throw new IndexOutOfBoundsException("no such port");
        if (!isStack(stack)) throw new IndexOutOfBoundsException("no such stack");
        if (!isWithin(weight, 1, MOST_WEIGHT)) throw new IllegalArgumentException("weight is out of range");
        if (!isWithin(truth, 1, MOST_WEIGHT)) throw new IllegalArgumentException("truth is out of range");
        if (!isWithin(kind, PLAIN, MOST_KIND)) throw new IllegalArgumentException("kind is out of range");
        if (boxes.count >= MOST_BOXES) throw new IllegalStateException("there were 60 boxes");
        if (!mayBeStacked(weight, stack)) throw new IllegalStateException("the stack may not have it");
        int box = boxes.come(weight, truth, port, kind);
        putInYard(box, stack);
        return box;
    }

    public boolean paper(int box, int paper) throws IndexOutOfBoundsException {
        if (!isBox(box)) throw new IndexOutOfBoundsException("no such box");
        if (!isWithin(paper, 0, PAPERS - 1)) throw new IndexOutOfBoundsException("no such paper");
        boxes.papers.set(box, boxes.papers.get(box) ^ (1 << paper));
        return boxes.isHeld(box);
    }

    public int skip(int port) throws IndexOutOfBoundsException, IllegalStateException {
        if (!isWithin(port, 1, LAST_PORT - 1)) throw new IndexOutOfBoundsException("no port that can be left out");
        if (!isAhead(port)) throw new IllegalStateException("the port is not ahead");
        leftOut.set(port, 1);
        int next = portBehind(port);
        int moved = 0;
        for (int box = 0; box < boxes.count; box++) {
            // A box that is gone goes nowhere any more, so it keeps the port that it had.
            if (boxes.where.get(box) != GONE && boxes.port.get(box) == port) {
                boxes.port.set(box, next);
                moved++;
            }
        }
        return moved;
    }

    // ---- orders, hours

    public int order(int what, int its, int place)
            throws IllegalArgumentException, IndexOutOfBoundsException, IllegalStateException {
        if (!isWithin(what, LOAD, SHUT)) throw new IllegalArgumentException("what is out of range");
        if (what == OPEN || what == SHUT) {
            if (!isBay(its)) throw new IndexOutOfBoundsException("no such bay");
        } else {
            if (!isBox(its)) throw new IndexOutOfBoundsException("no such box");
            if (what == LAND && !isStack(place)) throw new IndexOutOfBoundsException("no such stack");
            if (what != LAND && !isSlot(place)) throw new IndexOutOfBoundsException("no such slot");
        }
        if (queue.count >= MOST_ORDERS) throw new IllegalStateException("there are 20 orders");
        queue.append(what, its, place);
        return queue.count;
    }

    public int drop(int order) throws IndexOutOfBoundsException {
        if (!isOrder(order)) throw new IndexOutOfBoundsException("no such order");
        queue.remove(order);
        return queue.count;
    }

    public int pass(int hours) throws IllegalArgumentException, IllegalStateException {
        if (!isWithin(hours, 1, 24)) throw new IllegalArgumentException("hours is out of range");
        if (hour + hours > LAST_HOUR) throw new IllegalStateException("the hour would be above 1000");
        int lifts = 0;
        for (int passed = 0; passed < hours; passed++) {
            for (int crane = 0; crane < CRANES; crane++) {
                lifts += workAnHour(crane);
            }
            paid += 25 + overdueBoxes();
            hour++;
        }
        return lifts;
    }

    public int leave() throws IllegalStateException {
        if (bars() != 0) throw new IllegalStateException("she cannot leave");
        for (int box = 0; box < boxes.count; box++) {
            if (boxes.where.get(box) == YARD) boxes.move(box, GONE, NONE);
        }
        yard.clear();
        queue.count = 0;
        port = portBehind(port);
        return port;
    }

    // ---- what is asked

    public int hour() {
        return hour;
    }

    public int port() {
        return port;
    }

    public int cost() {
        return paid;
    }

    public int of(int box, int what) throws IndexOutOfBoundsException, IllegalArgumentException {
        if (!isBox(box)) throw new IndexOutOfBoundsException("no such box");
        if (!isWithin(what, 0, 6)) throw new IllegalArgumentException("what is out of range");
        switch (what) {
            case 0: return boxes.told.get(box);
            case 1: return boxes.port.get(box);
            case 2: return boxes.kind.get(box);
            case 3: return boxes.isHeld(box) ? 1 : 0;
            case 4: return boxes.where.get(box);
            case 5: return boxes.place.get(box);
            default: return boxesOn(box);
        }
    }

    public int at(int slot) throws IndexOutOfBoundsException {
        if (!isSlot(slot)) throw new IndexOutOfBoundsException("no such slot");
        return ship.boxIn(slot);
    }

    public int inYard(int stack, int place) throws IndexOutOfBoundsException {
        if (!isStack(stack)) throw new IndexOutOfBoundsException("no such stack");
        if (place < 0) throw new IndexOutOfBoundsException("no such place");
        return yard.boxIn(stack, place);
    }

    public int hatch(int bay) throws IndexOutOfBoundsException {
        if (!isBay(bay)) throw new IndexOutOfBoundsException("no such bay");
        return (ship.isOpen(bay) ? 1 : 0) + (isJammed(bay) ? 2 : 0);
    }

    public int moment(int what) throws IllegalArgumentException {
        if (!isWithin(what, 0, HEEL)) throw new IllegalArgumentException("what is out of range");
        return momentKept(what);
    }

    public int momentAnew(int what) throws IllegalArgumentException {
        if (!isWithin(what, 0, HEEL)) throw new IllegalArgumentException("what is out of range");
        int sum = 0;
        for (int box = 0; box < boxes.count; box++) {
            if (boxes.where.get(box) == SHIP) {
                int slot = boxes.place.get(box);
                int lever = what == HEEL ? rowOf(slot) - 1 : leverOf(bayOf(slot), what);
                sum += boxes.truth.get(box) * lever;
            }
        }
        if (what == HEEL) return sum;
        for (int bay = 0; bay < BAYS; bay++) {
            sum += ship.water.get(bay) * leverOf(bay, what);
        }
        return sum;
    }

    public int bars() {
        int bars = 0;
        for (int bay = 0; bay < BAYS; bay++) {
            if (ship.isOpen(bay)) bars |= 1;
        }
        if (Math.abs(momentKept(0)) > trimBound) bars |= 2;
        if (Math.abs(momentKept(HEEL)) > heelBound) bars |= 4;
        for (int cut = 1; cut < BAYS; cut++) {
            if (Math.abs(momentKept(cut)) > bendingBound) bars |= 8;
        }
        for (int box = 0; box < boxes.count; box++) {
            if (boxes.where.get(box) == SHIP && boxes.port.get(box) == port) bars |= 16;
        }
        if (port == LAST_PORT) bars |= 32;
        return bars;
    }

    public int dig(int box) throws IndexOutOfBoundsException, IllegalStateException {
        if (!isBox(box)) throw new IndexOutOfBoundsException("no such box");
        if (boxes.where.get(box) != SHIP) throw new IllegalStateException("the box is not on the ship");
        int slot = boxes.place.get(box);
        int above = boxesOn(box);
        return isUnderHatch(slot) ? above + ship.boxesOnTop(bayOf(slot)) : above;
    }

    public int orders() {
        return queue.count;
    }

    public boolean can(int order, int crane) throws IndexOutOfBoundsException {
        if (!isOrder(order)) throw new IndexOutOfBoundsException("no such order");
        if (!isCrane(crane)) throw new IndexOutOfBoundsException("no such crane");
        return canDo(order, crane);
    }

    public boolean may(int box, int slot) throws IndexOutOfBoundsException {
        if (!isBox(box)) throw new IndexOutOfBoundsException("no such box");
        if (!isSlot(slot)) throw new IndexOutOfBoundsException("no such slot");
        return mayBeIn(box, slot);
    }

    // ---- what there is

    private static boolean isWithin(int number, int least, int most) {
        return number >= least && number <= most;
    }

    private static boolean isBay(int bay) {
        return bay >= 0 && bay < BAYS;
    }

    private static boolean isSlot(int slot) {
        return slot >= 0 && bayOf(slot) < BAYS && rowOf(slot) < ROWS && tierOf(slot) < TIERS;
    }

    private static boolean isStack(int stack) {
        return stack >= 0 && stack < STACKS;
    }

    private static boolean isCrane(int crane) {
        return crane >= 0 && crane < CRANES;
    }

    private boolean isBox(int box) {
        return box >= 0 && box < boxes.count;
    }

    private boolean isOrder(int order) {
        return order >= 0 && order < queue.count;
    }

    private static int bayOf(int slot) {
        return slot / 100;
    }

    private static int rowOf(int slot) {
        return slot / 10 % 10;
    }

    private static int tierOf(int slot) {
        return slot % 10;
    }

    private static boolean isUnderHatch(int slot) {
        return tierOf(slot) < FIRST_TIER_ON_TOP;
    }

    /** Only the upper tier of the two on either side of a hatch rests on a box. */
    private static boolean restsOnBox(int slot) {
        return tierOf(slot) % 2 == 1;
    }

    // ---- ports

    private boolean isAhead(int there) {
        return there > port && leftOut.get(there) == 0;
    }

    private int portBehind(int there) {
        for (int next = there + 1; next < LAST_PORT; next++) {
            if (leftOut.get(next) == 0) return next;
        }
        return LAST_PORT;
    }

    private int overdueBoxes() {
        int overdue = 0;
        for (int box = 0; box < boxes.count; box++) {
            if (boxes.where.get(box) == YARD && !isAhead(boxes.port.get(box))) overdue++;
        }
        return overdue;
    }

    // ---- where boxes may be, and are put

    private boolean mayBeStacked(int weight, int stack) {
        int height = yard.height.get(stack);
        if (height == 0) return true;
        return height < STACK_ROOM && boxes.mayCarry(yard.topOf(stack), weight);
    }

    /** Whether a slot may have a box, the ship being without it. */
    private boolean mayBeIn(int box, int slot) {
        int there = ship.boxIn(slot);
        if (there != NONE && there != box) return false;
        if (isUnderHatch(slot) != ship.isOpen(bayOf(slot))) return false;
        if (restsOnBox(slot)) {
            int under = ship.boxIn(slot - 1);
            if (under == NONE || under == box) return false;
            if (!boxes.mayCarry(under, boxes.told.get(box))) return false;
        }
        int kind = boxes.kind.get(box);
        if (kind == COLD) return ship.hasPlug(slot);
        return kind < DANGER || isApartIn(box, bayOf(slot));
    }

    private boolean isApartIn(int danger, int bay) {
        int kind = boxes.kind.get(danger);
        for (int box = 0; box < boxes.count; box++) {
            int other = boxes.kind.get(box);
            if (box != danger && other >= DANGER && boxes.where.get(box) == SHIP) {
                int distance = Math.abs(bayOf(boxes.place.get(box)) - bay);
                if (distance == 0 && other != kind) return false;
                if (distance == 1 && (other == MOST_KIND || kind == MOST_KIND)) return false;
            }
        }
        return true;
    }

    private int boxesOn(int box) {
        int place = boxes.place.get(box);
        switch (boxes.where.get(box)) {
            case YARD: return yard.boxesOver(box, place);
            case SHIP: return ship.boxOver(place) == NONE ? 0 : 1;
            default: return 0;
        }
    }

    private void putInYard(int box, int stack) {
        yard.put(box, stack);
        boxes.move(box, YARD, stack);
    }

    private void putOnShip(int box, int slot) {
        ship.put(box, slot, boxes.truth.get(box));
        boxes.move(box, SHIP, slot);
    }

    private void takeAway(int box) {
        int place = boxes.place.get(box);
        if (boxes.where.get(box) == SHIP) {
            ship.take(place, boxes.truth.get(box));
        } else {
            yard.takeTop(place);
        }
    }

    // ---- moments

    private int momentKept(int what) {
        if (what == HEEL) return ship.heel;
        int sum = 0;
        for (int bay = 0; bay < BAYS; bay++) {
            sum += ship.load.get(bay) * leverOf(bay, what);
        }
        return sum;
    }

    /** What one of the load of a bay adds to the trim, what 0, or to the bending at the cut that what tells. */
    private static int leverOf(int bay, int what) {
        if (what == 0) return 2 * bay - 5;
        return (bay < what ? BAYS : 0) - what;
    }

    // ---- what cranes do

    private boolean isJammed(int bay) {
        return hour < ship.jammedTill.get(bay);
    }

    private boolean canDo(int order, int crane) {
        int its = queue.its.get(order);
        int place = queue.place.get(order);
        switch (queue.what.get(order)) {
            case LOAD: return cranes.reaches(crane, bayOf(place)) && canLoad(its) && mayBeIn(its, place);
            case LAND: return canTake(its, crane) && !boxes.isHeld(its) && mayBeStacked(boxes.told.get(its), place);
            case SHIFT: return cranes.reaches(crane, bayOf(place)) && canTake(its, crane)
                    && boxes.place.get(its) != place && mayBeIn(its, place);
            case OPEN: return cranes.reaches(crane, its) && !ship.isOpen(its) && !isJammed(its)
                    && ship.boxesOnTop(its) == 0;
            case SHUT: return cranes.reaches(crane, its) && ship.isOpen(its);
            default: return false;
        }
    }

    private boolean canLoad(int box) {
        return boxes.where.get(box) == YARD && yard.topOf(boxes.place.get(box)) == box
                && !boxes.isHeld(box) && isAhead(boxes.port.get(box));
    }

    private boolean canTake(int box, int crane) {
        if (boxes.where.get(box) != SHIP) return false;
        int slot = boxes.place.get(box);
        return cranes.reaches(crane, bayOf(slot)) && ship.boxOver(slot) == NONE
                && isUnderHatch(slot) == ship.isOpen(bayOf(slot));
    }

    private int workAnHour(int crane) {
        int most = cranes.lifts.get(crane);
        for (int done = 0; done < most; done++) {
            int order = firstFor(crane);
            // What it cannot do now it cannot do with its other lifts of this hour either.
            if (order == NONE) return done;
            lift(queue.what.get(order), queue.its.get(order), queue.place.get(order));
            queue.remove(order);
        }
        return most;
    }

    private int firstFor(int crane) {
        for (int order = 0; order < queue.count; order++) {
            if (canDo(order, crane)) return order;
        }
        return NONE;
    }

    private void lift(int what, int its, int place) {
        paid += 10;
        if (what == OPEN || what == SHUT) {
            ship.open.set(its, what == OPEN ? 1 : 0);
            return;
        }
        boxes.told.set(its, boxes.truth.get(its));
        if (what == LAND) {
            if (!mayBeStacked(boxes.told.get(its), place)) return;
            takeAway(its);
            putInYard(its, place);
        } else {
            if (!mayBeIn(its, place)) return;
            takeAway(its);
            putOnShip(its, place);
        }
    }

    /** A row of numbers that looks at each index itself, and has NONE where there is no cell. */
    private static final class Row {
        private final int[] cells;

        Row(int length, int first) {
            cells = new int[length < 0 ? 0 : length];
            for (int i = 0; i < cells.length; i++) {
                cells[i] = first;
            }
        }

        int get(int index) {
            return index >= 0 && index < cells.length ? cells[index] : NONE;
        }

        void set(int index, int number) {
            if (index >= 0 && index < cells.length) cells[index] = number;
        }

        void add(int index, int more) {
            if (index >= 0 && index < cells.length) cells[index] += more;
        }

        void fill(int number) {
            for (int i = 0; i < cells.length; i++) {
                cells[i] = number;
            }
        }
    }

    /** All boxes that ever came, a row for each thing that is known of them. */
    private static final class Boxes {
        final Row told;
        final Row truth;
        final Row port;
        final Row kind;
        final Row papers;
        final Row where;
        final Row place;
        int count;

        Boxes() {
            told = new Row(MOST_BOXES, 0);
            truth = new Row(MOST_BOXES, 0);
            port = new Row(MOST_BOXES, 0);
            kind = new Row(MOST_BOXES, PLAIN);
            papers = new Row(MOST_BOXES, 0);
            where = new Row(MOST_BOXES, GONE);
            place = new Row(MOST_BOXES, NONE);
        }

        int come(int itsWeight, int itsTruth, int itsPort, int itsKind) {
            int box = count;
            told.set(box, itsWeight);
            truth.set(box, itsTruth);
            port.set(box, itsPort);
            kind.set(box, itsKind);
            count++;
            return box;
        }

        boolean isHeld(int box) {
            return papers.get(box) != ALL_PAPERS;
        }

        boolean mayCarry(int box, int weight) {
            return weight <= told.get(box) + 5;
        }

        void move(int box, int itsWhere, int itsPlace) {
            where.set(box, itsWhere);
            place.set(box, itsPlace);
        }
    }

    /** The stacks of the yard. */
    private static final class Yard {
        final Row height;
        private final Row held;

        Yard() {
            height = new Row(STACKS, 0);
            held = new Row(STACKS * STACK_ROOM, NONE);
        }

        int boxIn(int stack, int level) {
            if (level < 0 || level >= height.get(stack)) return NONE;
            return held.get(stack * STACK_ROOM + level);
        }

        int topOf(int stack) {
            int top = height.get(stack) - 1;
            return top < 0 ? NONE : held.get(stack * STACK_ROOM + top);
        }

        int boxesOver(int box, int stack) {
            int all = height.get(stack);
            for (int level = 0; level < all; level++) {
                if (boxIn(stack, level) == box) return all - 1 - level;
            }
            return 0;
        }

        void put(int box, int stack) {
            held.set(stack * STACK_ROOM + height.get(stack), box);
            height.add(stack, 1);
        }

        void takeTop(int stack) {
            height.add(stack, -1);
        }

        void clear() {
            height.fill(0);
        }
    }

    /** The slots, plugs, hatches and tanks, and the loads and the heel as they are kept with each move. */
    private static final class Ship {
        final Row open;
        final Row jammedTill;
        final Row water;
        final Row load;
        int heel;
        private final Row held;
        private final Row plugs;

        Ship() {
            open = new Row(BAYS, 0);
            jammedTill = new Row(BAYS, 0);
            water = new Row(BAYS, 0);
            load = new Row(BAYS, 0);
            held = new Row(BAYS * ROWS * TIERS, NONE);
            plugs = new Row(BAYS * ROWS * TIERS, 0);
        }

        private static int cellOf(int slot) {
            return (slot / 100 * ROWS + slot / 10 % 10) * TIERS + slot % 10;
        }

        int boxIn(int slot) {
            return held.get(cellOf(slot));
        }

        int boxOver(int slot) {
            return restsOnBox(slot) ? NONE : held.get(cellOf(slot + 1));
        }

        int boxesOnTop(int bay) {
            int count = 0;
            for (int row = 0; row < ROWS; row++) {
                for (int tier = FIRST_TIER_ON_TOP; tier < TIERS; tier++) {
                    if (boxIn(100 * bay + 10 * row + tier) != NONE) count++;
                }
            }
            return count;
        }

        boolean isOpen(int bay) {
            return open.get(bay) == 1;
        }

        boolean hasPlug(int slot) {
            return plugs.get(cellOf(slot)) == 1;
        }

        void turnPlug(int slot) {
            plugs.set(cellOf(slot), hasPlug(slot) ? 0 : 1);
        }

        void put(int box, int slot, int weight) {
            held.set(cellOf(slot), box);
            addWeight(slot, weight);
        }

        void take(int slot, int weight) {
            held.set(cellOf(slot), NONE);
            addWeight(slot, -weight);
        }

        private void addWeight(int slot, int weight) {
            load.add(bayOf(slot), weight);
            heel += weight * (rowOf(slot) - 1);
        }
    }

    /** The orders that wait, the first one in front. */
    private static final class Queue {
        final Row what;
        final Row its;
        final Row place;
        int count;

        Queue() {
            what = new Row(MOST_ORDERS, NONE);
            its = new Row(MOST_ORDERS, NONE);
            place = new Row(MOST_ORDERS, NONE);
        }

        void append(int newWhat, int newIts, int newPlace) {
            what.set(count, newWhat);
            its.set(count, newIts);
            place.set(count, newPlace);
            count++;
        }

        void remove(int order) {
            count--;
            for (int i = order; i < count; i++) {
                what.set(i, what.get(i + 1));
                its.set(i, its.get(i + 1));
                place.set(i, place.get(i + 1));
            }
        }
    }

    /** The reaches of the cranes, and their lifts in an hour. */
    private static final class Cranes {
        final Row from;
        final Row to;
        final Row lifts;

        Cranes() {
            from = new Row(CRANES, 0);
            to = new Row(CRANES, BAYS - 1);
            lifts = new Row(CRANES, 2);
        }

        boolean reaches(int crane, int bay) {
            return bay >= from.get(crane) && bay <= to.get(crane);
        }
    }
}
