import java.util.function.Consumer;
import java.util.function.Supplier;

/** What the project's tests share: counts and prints the answers that are not as due. */
final class Check {
    /** A call of the class, or several of them. */
    interface Call {
        void run();
    }

    private static int wrong = 0;

    private Check() {
    }

    static void same(String what, Object got, Object due) {
        if (!due.equals(got)) {
            wrong++;
            System.out.println(what + ": answered " + got + ", due is " + due);
        }
    }

    static void outOfRange(String what, Call call) {
        refuses(what, IllegalArgumentException.class, call);
    }

    static void missing(String what, Call call) {
        refuses(what, IndexOutOfBoundsException.class, call);
    }

    static void notNow(String what, Call call) {
        refuses(what, IllegalStateException.class, call);
    }

    /** The call must throw just this exception, no subclass of it. */
    static void refuses(String what, Class<? extends RuntimeException> due, Call call) {
        same(what, thrownBy(call), due.getName());
    }

    /**
     * The call must throw just this exception; and the object behind it must answer all that
     * follows as its twin does, which was made alike and did not get the call.
     */
    static void refusesAndKeeps(String what, Class<? extends RuntimeException> due, Supplier<Breakpoint> maker,
            Consumer<Breakpoint> call) {
        Breakpoint x = maker.get();
        refuses(what, due, () -> call.accept(x));
        same(what + ", what follows", future(x), future(maker.get()));
    }

    static String thrownBy(Call call) {
        try {
            call.run();
        } catch (RuntimeException e) {
            return e.getClass().getName();
        }
        return "nothing thrown";
    }

    /** What an object answers from now on, so that its settings and marks show as well. */
    private static String future(Breakpoint x) {
        StringBuilder text = new StringBuilder(picture(x));
        text.append(" penalty ").append(x.setPenalty(3));
        text.append(" marks ");
        int size = x.size();
        for (int number = 0; number < size; number++) {
            text.append(x.toggleTruth(number) ? '+' : '-');
        }
        int room = Math.min(120 - size, 4);
        addAndTell(text, x, new int[] {9, -31, 44, -2}, room);
        text.append(" alarms ").append(alarms(x)).append(" clear ").append(x.clear());
        addAndTell(text, x, new int[] {0, 0, 17, -9, 60, 111, -80, -20}, 8);
        return text.append(' ').append(picture(x)).toString();
    }

    private static void addAndTell(StringBuilder text, Breakpoint x, int[] values, int count) {
        for (int i = 0; i < count; i++) {
            text.append(" add ").append(x.add(values[i])).append(' ').append(sums(x));
        }
    }

    /** What can be read of an object but its settings, in few enough calls to leave room for others. */
    static String picture(Breakpoint x) {
        StringBuilder text = new StringBuilder("values");
        int size = x.size();
        for (int number = 0; number < size; number++) {
            text.append(' ').append(x.value(number));
        }
        text.append(" sums ").append(sums(x)).append(" alarms ").append(alarms(x));
        text.append(" best ").append(changes(x)).append(' ').append(x.bestCost());
        text.append(" greedy ").append(greedyChanges(x)).append(' ').append(x.greedyCost());
        text.append(" least");
        for (int changes = 0; changes < Math.min(size, 5); changes++) {
            text.append(' ').append(x.leastCost(changes));
        }
        text.append(" truth");
        for (int kind = 0; kind < 3; kind++) {
            text.append(' ').append(x.matched(kind, 0)).append(' ').append(x.matched(kind, 120));
            text.append(' ').append(x.falseAlarms(kind, 120));
        }
        return text.toString();
    }

    /** The high sum, the low sum, and the test's sum above its least one. */
    static String sums(Breakpoint x) {
        return x.highSum() + " " + x.lowSum() + " " + x.testSum();
    }

    /** Each alarm as kind@number, and its start behind a <. */
    static String alarms(Breakpoint x) {
        StringBuilder text = new StringBuilder();
        int count = x.alarms();
        for (int i = 0; i < count; i++) {
            text.append(i == 0 ? "" : " ").append(x.alarmKind(i)).append('@').append(x.alarmNumber(i));
            text.append('<').append(x.alarmStart(i));
        }
        return text.toString();
    }

    static String changes(Breakpoint x) {
        StringBuilder text = new StringBuilder();
        int count = x.changes();
        for (int place = 0; place < count; place++) {
            text.append(place == 0 ? "" : " ").append(x.change(place));
        }
        return text.toString();
    }

    static String greedyChanges(Breakpoint x) {
        StringBuilder text = new StringBuilder();
        int count = x.greedyChanges();
        for (int place = 0; place < count; place++) {
            text.append(place == 0 ? "" : " ").append(x.greedyChange(place));
        }
        return text.toString();
    }

    static Breakpoint with(int... values) {
        Breakpoint x = new Breakpoint();
        addAll(x, values);
        return x;
    }

    static void addAll(Breakpoint x, int... values) {
        for (int value : values) {
            x.add(value);
        }
    }

    /** An object whose detectors are as deaf as their settings allow. */
    static Breakpoint quiet(int... values) {
        Breakpoint x = new Breakpoint();
        x.setSums(0, 1000, 100000);
        x.setTest(1000, 0, 100000);
        addAll(x, values);
        return x;
    }

    static void end() {
        System.out.println(wrong == 0 ? "all answers are as due" : wrong + " answers are not as due");
        if (wrong != 0) {
            System.exit(1);
        }
    }
}
