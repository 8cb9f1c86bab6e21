import java.nio.charset.StandardCharsets;

/** What the tests share: due answers are compared, and texts are fed to a bus. */
final class Check {
    static final Class<?> INDEX = IndexOutOfBoundsException.class;
    static final Class<?> ARGUMENT = IllegalArgumentException.class;
    static final Class<?> STATE = IllegalStateException.class;
    static final Class<?> ELEMENT = java.util.NoSuchElementException.class;

    private static int wrong = 0;
    private static int checked = 0;

    private Check() {
    }

    static void is(String what, long got, long due) {
        checked++;
        if (got != due) {
            wrong++;
            System.out.println(what + " answered " + got + ", due is " + due);
        }
    }

    static void is(String what, double got, double due) {
        checked++;
        if (Double.compare(got, due) != 0) {
            wrong++;
            System.out.println(what + " answered " + got + ", due is " + due);
        }
    }

    static void is(String what, boolean got, boolean due) {
        is(what, got ? 1 : 0, due ? 1 : 0);
    }

    static void is(String what, String got, String due) {
        checked++;
        if (!got.equals(due)) {
            wrong++;
            System.out.println(what + " answered \"" + got + "\", due is \"" + due + "\"");
        }
    }

    static void fails(String what, Class<?> due, Runnable call) {
        checked++;
        String got = "nothing";
        try {
            call.run();
        } catch (RuntimeException e) {
            got = e.getClass().getName();
        }
        if (!got.equals(due.getName())) {
            wrong++;
            System.out.println(what + " threw " + got + ", due is " + due.getName());
        }
    }

    /** Ends the test: with exit code 1 if an answer was not the one that is due. */
    static void end() {
        System.out.println(checked + " checks, " + wrong + " wrong");
        if (wrong != 0 || checked == 0) {
            System.exit(1);
        }
    }

    /** Appends a text to the input buffer, which has to be empty. */
    static void put(BallotBus bus, String text) {
        byte[] bytes = text.getBytes(StandardCharsets.ISO_8859_1);
        for (int start = 0; start < bytes.length; start += 20) {
            int[] words = new int[5];
            for (int index = 0; index < 20; index++) {
                int value = start + index < bytes.length ? bytes[start + index] & 255 : 0;
                words[index / 4] = words[index / 4] << 8 | value;
            }
            is("feed in front of \"" + text + "\"", bus.feed(words[0], words[1], words[2], words[3], words[4]),
                start + 20);
        }
        is("truncate behind \"" + text + "\"", bus.truncate(bytes.length), true);
    }

    static int parse(BallotBus bus, String text) {
        put(bus, text);
        return bus.parse();
    }

    /** A bus with this setup. */
    static BallotBus bus(String text) {
        BallotBus bus = new BallotBus();
        int kinds = parse(bus, text);
        is("error of \"" + text + "\"", bus.errorCode() + " at " + bus.errorOffset(), "0 at -1");
        is("parse of \"" + text + "\"", kinds >= 1, true);
        return bus;
    }

    static int find(BallotBus bus, boolean asker, String name) {
        put(bus, name);
        return bus.find(asker);
    }

    static String output(BallotBus bus) {
        StringBuilder text = new StringBuilder();
        int value = bus.outputByte(0);
        for (int index = 1; value != BallotBus.NONE; index++) {
            text.append((char) value);
            value = bus.outputByte(index);
        }
        return text.toString();
    }

    static String order(BallotBus bus) {
        StringBuilder text = new StringBuilder();
        int kinds = bus.count(0);
        for (int place = 0; place < kinds; place++) {
            text.append(bus.order(place));
        }
        return text.toString();
    }

    static String voted(BallotBus bus, int tally) {
        StringBuilder text = new StringBuilder();
        int kinds = bus.count(0);
        for (int place = 0; place < kinds; place++) {
            text.append(bus.voted(tally, place));
        }
        return text.toString();
    }

    static String middle(BallotBus bus) {
        StringBuilder text = new StringBuilder();
        int kinds = bus.count(0);
        for (int place = 0; place < kinds; place++) {
            text.append(bus.middle(place));
        }
        return text.toString();
    }

    static String ballot(BallotBus bus, int asker) {
        StringBuilder text = new StringBuilder();
        int kinds = bus.count(0);
        for (int place = 0; place < kinds; place++) {
            text.append(bus.ballot(asker, place));
        }
        return text.toString();
    }

    static String line(BallotBus bus, int kind) {
        StringBuilder text = new StringBuilder();
        int size = bus.kind(kind, 1);
        for (int index = 0; index < size; index++) {
            text.append(index == 0 ? "" : " ").append(bus.line(kind, index));
        }
        return text.toString();
    }

    /** All that can be asked of a bus about its present state, as one text. */
    static String all(BallotBus bus) {
        StringBuilder text = new StringBuilder();
        for (int what = 0; what < 15; what++) {
            text.append(bus.count(what)).append(' ');
        }
        int askers = bus.count(1);
        for (int asker = 0; asker < askers; asker++) {
            for (int what = 0; what < 10; what++) {
                text.append(bus.asker(asker, what)).append(' ');
            }
            text.append(ballot(bus, asker)).append(' ').append(bus.share(asker)).append(' ');
        }
        int kinds = bus.count(0);
        for (int kind = 0; kind < kinds; kind++) {
            for (int what = 0; what < 6; what++) {
                text.append(bus.kind(kind, what)).append(' ');
            }
            text.append(bus.meanWait(kind)).append(' ');
            int size = bus.kind(kind, 1);
            for (int index = 0; index < size; index++) {
                appendRequest(bus, bus.line(kind, index), text);
            }
        }
        appendRequest(bus, bus.progress(), text);
        for (int back = Math.min(60, bus.count(10)) - 1; back >= 0; back--) {
            for (int what = 0; what < 6; what++) {
                text.append(bus.answer(back, what)).append(' ');
            }
        }
        return text.append(order(bus)).toString();
    }

    private static void appendRequest(BallotBus bus, int serial, StringBuilder text) {
        text.append('#').append(serial).append(' ');
        for (int what = 0; what < 5 && serial != BallotBus.NONE; what++) {
            text.append(bus.request(serial, what)).append(' ');
        }
    }
}
