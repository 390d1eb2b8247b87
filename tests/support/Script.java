import java.util.ArrayList;
import java.util.List;
import java.util.Map;
import java.util.Set;

/**
 * A run of calls that shows that a sentence of the document holds, as a text of calls with what is due:
 * <pre>
 *     box(10, 12, 3, COLD, 4) = 0    # what is due stands behind the =; what stands behind the # is not read
 *     at(4) = OUT                    # OUT, ARGUMENT, STATE: the exceptions; a refused call may change nothing
 *     tank(0, 7); tank(1, 7)         # with nothing due: it may not throw
 *     papers(0)                      # all three papers of a box
 *     ready(10, 3, PLAIN, 4)         # a box, told and truly of the weight 10, to the port 3, with its papers
 *     stow(10, 3, PLAIN, 202)        # the same, on the ship, by way of the stack 9, in an hour
 *     stays                          # the last call may have changed nothing, though it was not refused
 * </pre>
 */
final class Script {
    private static final Set<String> QUESTIONS = Set.of("hour", "port", "cost", "of", "at", "inYard", "hatch", "moment",
        "momentAnew", "bars", "dig", "orders", "can", "may");
    private static final Map<String, String> EXCEPTIONS = Map.of("OUT", "throws.IndexOutOfBoundsException",
        "ARGUMENT", "throws.IllegalArgumentException", "STATE", "throws.IllegalStateException");
    private static final Map<String, Integer> NAMES = Map.ofEntries(Map.entry("NONE", CargoHeel.NONE),
        Map.entry("PLAIN", CargoHeel.PLAIN), Map.entry("COLD", CargoHeel.COLD),
        Map.entry("DANGER", CargoHeel.DANGER), Map.entry("YARD", CargoHeel.YARD), Map.entry("SHIP", CargoHeel.SHIP),
        Map.entry("GONE", CargoHeel.GONE), Map.entry("LOAD", CargoHeel.LOAD), Map.entry("LAND", CargoHeel.LAND),
        Map.entry("SHIFT", CargoHeel.SHIFT), Map.entry("OPEN", CargoHeel.OPEN), Map.entry("SHUT", CargoHeel.SHUT),
        Map.entry("MIN", Integer.MIN_VALUE), Map.entry("MAX", Integer.MAX_VALUE), Map.entry("true", 1),
        Map.entry("false", 0));
    private static final int SPARE_STACK = 9;

    private final String sentence;
    private final Watched x = new Watched();
    private final List<Call> changes = new ArrayList<>();
    private int line = 0;

    Script(String sentence) {
        this.sentence = sentence;
    }

    static void run(String sentence, String text) {
        new Script(sentence).play(text).end();
    }

    Script play(String text) {
        for (String row : text.split("\n")) {
            line++;
            int comment = row.indexOf('#');
            for (String part : (comment < 0 ? row : row.substring(0, comment)).split(";")) {
                if (!part.isBlank()) part(part.strip());
            }
        }
        return this;
    }

    /** Questions and refused calls have changed nothing in all. */
    void end() {
        Due.sameAfter(head() + "the questions and refused calls", changes, x.callsBut(0), x.boxes());
    }

    int boxes() {
        return x.boxes();
    }

    private String head() {
        return "[" + sentence + "] line " + line + ": ";
    }

    private void part(String part) {
        if (part.equals("stays")) {
            Due.lastChangedNothing(x, head() + part);
            return;
        }
        int open = part.indexOf('(');
        int shut = part.indexOf(')');
        String name = part.substring(0, open).strip();
        String list = part.substring(open + 1, shut).strip();
        String[] texts = list.isEmpty() ? new String[0] : list.split(",");
        int[] args = new int[texts.length];
        for (int i = 0; i < args.length; i++) args[i] = number(texts[i].strip());
        int equals = part.indexOf('=', shut);
        act(name, args, equals < 0 ? null : part.substring(equals + 1).strip());
    }

    private static int number(String text) {
        return NAMES.containsKey(text) ? NAMES.get(text) : Integer.parseInt(text);
    }

    private void act(String name, int[] args, String due) {
        switch (name) {
            case "papers" -> papers(args[0]);
            case "ready" -> ready(args[0], args[1], args[2], args[3]);
            case "stow" -> stow(args[0], args[1], args[2], args[3]);
            default -> due(due, name, args);
        }
    }

    private void papers(int box) {
        for (int paper = 0; paper < 3; paper++) due(null, "paper", box, paper);
    }

    private int ready(int weight, int port, int kind, int stack) {
        int box = x.boxes();
        due(Integer.toString(box), "box", weight, weight, port, kind, stack);
        papers(box);
        return box;
    }

    private void stow(int weight, int port, int kind, int slot) {
        int box = ready(weight, port, kind, SPARE_STACK);
        due(null, "order", CargoHeel.LOAD, box, slot);
        due(null, "pass", 1);
        due(Integer.toString(box), "at", slot);
    }

    /** The call has to answer what is due; if nothing is due, it has to be taken. */
    Script due(String due, String name, int... args) {
        Call call = new Call(name, args);
        if (!call.isKnown()) throw new AssertionError(head() + call + " is no call of the face");
        String got = answer(name, args);
        boolean isThrown = got.startsWith("throws.");
        if (due != null) {
            Due.equal(head() + call, EXCEPTIONS.containsKey(due) ? EXCEPTIONS.get(due) : "" + number(due), got);
        } else if (isThrown) {
            Due.equal(head() + call, "an answer", got);
        }
        if (isThrown) {
            Due.lastChangedNothing(x, head() + call);
        } else if (!QUESTIONS.contains(name)) {
            changes.add(call);
        }
        return this;
    }

    /** The same for one of many like calls: what it changed is seen at the end alone. */
    Script swept(String due, String name, int... args) {
        String got = answer(name, args);
        Due.equal("[" + sentence + "] " + new Call(name, args), EXCEPTIONS.getOrDefault(due, due), got);
        if (!got.startsWith("throws.") && !QUESTIONS.contains(name)) changes.add(new Call(name, args));
        return this;
    }

    private String answer(String name, int[] args) {
        try {
            return Integer.toString(x.ask(name, args));
        } catch (RuntimeException e) {
            return "throws." + e.getClass().getSimpleName();
        }
    }
}
