import java.util.ArrayList;
import java.util.List;

/** A CargoHeel that keeps its calls, so that they can be made again, and is never used for more than 512. */
final class Watched {
    static final int MOST_CALLS = 512;

    private final CargoHeel it = new CargoHeel();
    private final List<Call> calls = new ArrayList<>();
    private int boxes = 0;

    /** The calls so far, the last ones left out. */
    List<Call> callsBut(int last) {
        return new ArrayList<>(calls.subList(0, calls.size() - last));
    }

    int calls() {
        return calls.size();
    }

    int boxes() {
        return boxes;
    }

    int ask(String name, int... args) {
        Call call = new Call(name, args);
        if (calls.size() == MOST_CALLS) throw new AssertionError("a test calls one object more than 512 times");
        calls.add(call);
        int answer = call.on(it);
        if (name.equals("box")) boxes++;
        return answer;
    }

    boolean plug(int slot) {
        return ask("plug", slot) == 1;
    }

    void bounds(int trim, int heel, int bending) {
        ask("bounds", trim, heel, bending);
    }

    int tank(int bay, int water) {
        return ask("tank", bay, water);
    }

    int jam(int bay, int hours) {
        return ask("jam", bay, hours);
    }

    void crane(int crane, int from, int to, int lifts) {
        ask("crane", crane, from, to, lifts);
    }

    int box(int weight, int truth, int port, int kind, int stack) {
        return ask("box", weight, truth, port, kind, stack);
    }

    boolean paper(int box, int paper) {
        return ask("paper", box, paper) == 1;
    }

    int skip(int port) {
        return ask("skip", port);
    }

    int order(int what, int its, int place) {
        return ask("order", what, its, place);
    }

    int drop(int order) {
        return ask("drop", order);
    }

    int pass(int hours) {
        return ask("pass", hours);
    }

    int leave() {
        return ask("leave");
    }

    int hour() {
        return ask("hour");
    }

    int port() {
        return ask("port");
    }

    int cost() {
        return ask("cost");
    }

    int of(int box, int what) {
        return ask("of", box, what);
    }

    int at(int slot) {
        return ask("at", slot);
    }

    int inYard(int stack, int place) {
        return ask("inYard", stack, place);
    }

    int hatch(int bay) {
        return ask("hatch", bay);
    }

    int moment(int what) {
        return ask("moment", what);
    }

    int momentAnew(int what) {
        return ask("momentAnew", what);
    }

    int bars() {
        return ask("bars");
    }

    int dig(int box) {
        return ask("dig", box);
    }

    int orders() {
        return ask("orders");
    }

    boolean can(int order, int crane) {
        return ask("can", order, crane) == 1;
    }

    boolean may(int box, int slot) {
        return ask("may", box, slot) == 1;
    }
}
