import java.util.List;

/** Asks fresh objects that were led by the same calls, a new one each time an object has had all its calls. */
final class Questions {
    private final List<Call> run;
    private final int room;
    private CargoHeel x;
    private int left = 0;

    /** The room is how many calls an object may have behind the run. */
    Questions(List<Call> run, int room) {
        this.run = run;
        this.room = room;
    }

    boolean haveRoom() {
        return room > 0;
    }

    String answer(Call question) {
        if (left == 0) {
            x = led(run);
            left = room;
        }
        left--;
        return question.told(x);
    }

    static CargoHeel led(List<Call> run) {
        CargoHeel x = new CargoHeel();
        for (Call call : run) call.told(x);
        return x;
    }
}
