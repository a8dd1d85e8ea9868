/** What the project's tests share: counts and prints the answers that are not as due. */
final class Check {
    /** A call of the class, or several of them. */
    interface Call {
        void run();
    }

    private static int wrong = 0;

    private Check() {
    }

    static void same(String what, Object got, Object due) {
        if (!due.equals(got)) {
            wrong++;
            System.out.println(what + ": answered " + got + ", due is " + due);
        }
    }

    static void outOfRange(String what, Breakpoint x, Call call) {
        refuses(what, IllegalArgumentException.class, x, call);
    }

    static void missing(String what, Breakpoint x, Call call) {
        refuses(what, IndexOutOfBoundsException.class, x, call);
    }

    static void notNow(String what, Breakpoint x, Call call) {
        refuses(what, IllegalStateException.class, x, call);
    }

    /** The call must throw just this exception, no subclass of it, and leave the object as it was. */
    private static void refuses(String what, Class<? extends RuntimeException> due, Breakpoint x, Call call) {
        String before = picture(x);
        same(what, thrownBy(call), due.getName());
        same(what + ", the object behind it", picture(x), before);
    }

    static String thrownBy(Call call) {
        try {
            call.run();
        } catch (RuntimeException e) {
            return e.getClass().getName();
        }
        return "nothing thrown";
    }

    /** All that can be read of an object but its settings. */
    static String picture(Breakpoint x) {
        StringBuilder text = new StringBuilder();
        text.append("values");
        for (int i = 0; i < x.size(); i++) {
            text.append(' ').append(x.value(i));
        }
        text.append(" sums ").append(x.highSum()).append(' ').append(x.lowSum()).append(' ').append(x.testSum());
        text.append(" alarms ").append(alarms(x));
        text.append(" best ").append(changes(x)).append(' ').append(x.bestCost());
        text.append(" greedy ").append(greedyChanges(x)).append(' ').append(x.greedyCost());
        text.append(" least");
        for (int changes = 0; changes < x.size(); changes++) {
            text.append(' ').append(x.leastCost(changes));
        }
        text.append(" truth");
        for (int kind = 0; kind < 3; kind++) {
            text.append(' ').append(x.matched(kind, 0)).append(' ').append(x.matched(kind, 120));
            text.append(' ').append(x.falseAlarms(kind, 120));
        }
        return text.toString();
    }

    /** Each alarm as kind@number from start. */
    static String alarms(Breakpoint x) {
        StringBuilder text = new StringBuilder();
        for (int i = 0; i < x.alarms(); i++) {
            text.append(i == 0 ? "" : " ").append(x.alarmKind(i)).append('@').append(x.alarmNumber(i));
            text.append('<').append(x.alarmStart(i));
        }
        return text.toString();
    }

    static String changes(Breakpoint x) {
        StringBuilder text = new StringBuilder();
        for (int place = 0; place < x.changes(); place++) {
            text.append(place == 0 ? "" : " ").append(x.change(place));
        }
        return text.toString();
    }

    static String greedyChanges(Breakpoint x) {
        StringBuilder text = new StringBuilder();
        for (int place = 0; place < x.greedyChanges(); place++) {
            text.append(place == 0 ? "" : " ").append(x.greedyChange(place));
        }
        return text.toString();
    }

    static Breakpoint with(int... values) {
        Breakpoint x = new Breakpoint();
        addAll(x, values);
        return x;
    }

    static void addAll(Breakpoint x, int... values) {
        for (int value : values) {
            x.add(value);
        }
    }

    /** An object whose detectors are as deaf as their settings allow. */
    static Breakpoint quiet(int... values) {
        Breakpoint x = new Breakpoint();
        x.setSums(0, 1000, 100000);
        x.setTest(1000, 0, 100000);
        addAll(x, values);
        return x;
    }

    static void end() {
        System.out.println(wrong == 0 ? "all answers are as due" : wrong + " answers are not as due");
        if (wrong != 0) {
            System.exit(1);
        }
    }
}
