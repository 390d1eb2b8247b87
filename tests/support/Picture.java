import java.util.ArrayList;
import java.util.List;

/**
 * All that an object tells after a run of calls, and what becomes of it when it is used further.
 * Each part is asked of a fresh object that was led by the same calls, so that no object has more than 512.
 */
final class Picture {
    private static final int SLOTS = 72;

    private final List<Call> run;
    private final int room;
    private final StringBuilder told = new StringBuilder();

    private Picture(List<Call> run, int room) {
        this.run = run;
        this.room = room;
    }

    /** How many boxes there are, and how many calls are left, is given: then two runs are asked the same. */
    static String of(List<Call> run, int boxes, int room) {
        Picture picture = new Picture(run, room);
        picture.ask(questions(boxes));
        picture.use("water", each("tank", 6, 0));
        picture.use("jams", each("jam", 6, 1));
        picture.use("plugs", plugs());
        picture.use("ports left out", skips(boxes));
        picture.use("bounds", bounds());
        picture.use("orders and cranes", work());
        picture.use("lifts", lifts());
        picture.use("the yard", boxesTillFull());
        picture.use("the next port", leave());
        for (int box = 0; box < boxes; box++) picture.use("papers", papers(box));
        return picture.told.toString();
    }

    static int slot(int i) {
        return 100 * (i / 12) + 10 * (i / 4 % 3) + i % 4;
    }

    private void ask(List<Call> questions) {
        Questions asked = new Questions(run, room);
        told.append("asked");
        for (Call question : questions) {
            if (asked.haveRoom()) told.append(' ').append(asked.answer(question));
        }
    }

    private void use(String part, List<Call> more) {
        CargoHeel x = Questions.led(run);
        told.append('\n').append(part);
        for (Call call : more.subList(0, Math.min(more.size(), room))) {
            told.append(' ').append(call.told(x));
        }
    }

    /** All that can be asked where there are so many boxes; of may, and of boxes that are not there, a part. */
    static List<Call> questions(int boxes) {
        List<Call> all = new ArrayList<>();
        for (String name : new String[] {"hour", "port", "cost", "orders", "bars"}) all.add(new Call(name));
        for (int what = 0; what < 7; what++) {
            all.add(new Call("moment", what));
            all.add(new Call("momentAnew", what));
        }
        for (int bay = 0; bay < 6; bay++) all.add(new Call("hatch", bay));
        for (int i = 0; i < 40; i++) all.add(new Call("inYard", i / 4, i % 4));
        for (int i = 0; i < SLOTS; i++) all.add(new Call("at", slot(i)));
        for (int i = 0; i < 40; i++) all.add(new Call("can", i / 2, i % 2));
        // One more than there are, to see that none has come.
        for (int box = 0; box <= boxes; box++) {
            for (int what = 0; what < 7; what++) all.add(new Call("of", box, what));
            all.add(new Call("dig", box));
            for (int bay = 0; bay < 6; bay++) all.add(new Call("may", box, 100 * bay + 12));
        }
        for (int box = 0; box < Math.min(boxes, 4); box++) {
            for (int i = 0; i < SLOTS; i++) all.add(new Call("may", box, slot(i)));
        }
        return all;
    }

    private static List<Call> each(String name, int count, int second) {
        List<Call> all = new ArrayList<>();
        for (int i = 0; i < count; i++) all.add(new Call(name, i, second));
        return all;
    }

    private static List<Call> plugs() {
        List<Call> all = new ArrayList<>();
        for (int i = 0; i < SLOTS; i++) all.add(new Call("plug", slot(i)));
        return all;
    }

    /** Each paper is turned till all eight states were there. */
    private static List<Call> papers(int box) {
        List<Call> all = new ArrayList<>();
        for (int paper : new int[] {0, 1, 0, 2, 0, 1, 0}) all.add(new Call("paper", box, paper));
        return all;
    }

    private static List<Call> skips(int boxes) {
        List<Call> all = new ArrayList<>();
        for (int port = 1; port < 9; port++) all.add(new Call("skip", port));
        for (int box = 0; box < boxes; box++) all.add(new Call("of", box, 1));
        return all;
    }

    private static List<Call> bounds() {
        List<Call> all = each("tank", 6, 0);
        for (int bay = 0; bay < 6; bay++) {
            for (int water = 0; water < 100; water += 9) {
                all.add(new Call("tank", bay, water));
                all.add(new Call("bars"));
            }
        }
        return all;
    }

    private static List<Call> work() {
        List<Call> all = new ArrayList<>();
        for (int hour = 0; hour < 12; hour++) {
            all.add(new Call("pass", 1));
            all.add(new Call("orders"));
            all.add(new Call("cost"));
            for (int what : new int[] {0, 1, 6}) all.add(new Call("moment", what));
            for (int order = 0; order < 3; order++) all.add(new Call("can", order, order % 2));
        }
        return all;
    }

    private static List<Call> lifts() {
        List<Call> all = new ArrayList<>();
        for (int order = 0; order < 20; order++) all.add(new Call("drop", 0));
        for (int i = 0; i < 12; i++) {
            all.add(new Call("order", CargoHeel.OPEN, i % 6, 0));
            all.add(new Call("order", CargoHeel.SHUT, i % 6, 0));
            if (i % 3 == 2) all.add(new Call("pass", 1));
        }
        return all;
    }

    private static List<Call> boxesTillFull() {
        List<Call> all = new ArrayList<>();
        for (int i = 0; i < 80; i++) all.add(new Call("box", 40 - i / 2, 7, 9, 0, i % 10));
        return all;
    }

    private static List<Call> leave() {
        List<Call> all = new ArrayList<>();
        all.add(new Call("bounds", 2000, 2000, 9999));
        for (int port = 0; port < 10; port++) {
            all.add(new Call("leave"));
            all.add(new Call("port"));
            all.add(new Call("bars"));
        }
        return all;
    }
}
