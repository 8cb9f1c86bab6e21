import java.nio.charset.StandardCharsets;

/** Compares a bus with the model over runs of calls that are the same each time. */
public final class ModelTest {
    private static final int RUNS = 800;
    /** An object answers for this many calls; a text takes at most 25 feeds and four calls more. */
    private static final int CALLS = 512, TEXT_CALLS = 29;
    private static final String[] WORDS = {"class", "short", "rich", "owing", "asker", "credits", "weight", "tally",
        "points", "firsts", "pairs", "turn", "round", "veto", "line", "silence", "ask", ";", ";", ";", "a", "b", "x",
        "abcdef", "abcdefg", "0", "1", "9", "20", "21", "050", "0001", "999", " ", "\n", "?", "\t", "A"};
    private static final String[] ASKS = {"count", "asker", "asker", "kind", "kind", "ballot", "order", "request",
        "line", "progress", "answer", "points", "firsts", "beats", "wins", "champion", "voted", "isDecisive", "votes",
        "differences", "distance", "middle", "meanWait", "share", "debts", "richest", "answeredIn", "answersIn",
        "silentIn", "emptyIn", "printOrder", "outputByte", "errorCode", "errorOffset", "saveState"};
    private static final String[] CHANGES = {"run", "run", "run", "run", "run", "ask", "ask", "ask", "ask", "ask",
        "cancel", "cast", "cast", "cast", "cast", "veto", "veto", "payBack", "setTally", "setManner", "undo",
        "undo", "restoreState"};
    private static final String[] DEAR = {"bestVeto", "bestTally", "bestBallot"};

    private static long seed;
    private static int calls;

    private static int below(int bound) {
        seed = seed * 6364136223846793005L + 1442695040888963407L;
        return (int) ((seed >>> 33) % bound);
    }

    private static String pick(String... words) {
        return words[below(words.length)];
    }

    public static void main(String[] args) {
        for (int run = 0; run < RUNS; run++) {
            seed = run;
            play(run);
        }
        for (int run = 0; run < 100; run++) {
            seed = 1000000 + run;
            texts();
        }
        Check.end();
    }

    private static String setup() {
        StringBuilder text = new StringBuilder();
        int kinds = 1 + below(5);
        int askers = 1 + below(8);
        for (int kind = 0; kind < kinds; kind++) {
            text.append("class ").append((char) ('a' + kind)).append(pick("", " short", " rich", " owing")).append(";");
        }
        for (int asker = 0; asker < askers; asker++) {
            text.append("asker ").append((char) ('p' + asker)).append(" credits ").append(pick("0", "5", "12", "990", "999"))
                .append(pick("", " weight 2", " weight 3", " weight 9")).append(";");
        }
        text.append(pick("", "tally points;", "tally firsts;", "tally pairs;", "tally pairs;"));
        text.append(pick("", "turn 1;", "turn 1;", "turn 2;", "turn 4;", "turn 20;"));
        text.append(pick("", "round 1;", "round 3;", "round 4;", "round 9;", "round 50;"));
        text.append(pick("", "veto 0;", "veto 3;", "veto 7;", "veto 99;"));
        text.append(pick("", "line 6;", "line 20;", "line 99;"));
        text.append(pick("", "silence 1;", "silence 2;", "silence 9;"));
        while (text.length() < 480 && below(20) != 0) {
            text.append("ask ").append((char) ('p' + below(askers))).append(" ").append((char) ('a' + below(kinds)))
                .append(1 + below(below(3) == 0 ? 20 : 4)).append(";");
        }
        return text.toString();
    }

    private static void put(BallotBus bus, Model model, String text) {
        byte[] bytes = text.getBytes(StandardCharsets.ISO_8859_1);
        for (int start = 0; start < bytes.length; start += 20) {
            int[] words = new int[5];
            for (int index = 0; index < 20; index++) {
                int value = start + index < bytes.length ? bytes[start + index] & 255 : below(256);
                words[index / 4] = words[index / 4] << 8 | value;
            }
            calls++;
            Check.is("feed", bus.feed(words[0], words[1], words[2], words[3], words[4]), model.feed(words));
        }
        calls++;
        int length = below(30) == 0 ? below(600) - 50 : bytes.length;
        Check.is("truncate", bus.truncate(length) ? 1 : 0, model.truncate(length));
    }

    private static void parse(BallotBus bus, Model model, String text) {
        put(bus, model, text);
        calls += 3;
        Check.is("parse " + text, bus.parse(), model.parse());
        Check.is("code of " + text, bus.errorCode(), model.code);
        Check.is("offset of " + text, bus.errorOffset(), model.offset);
    }

    private static String strange() {
        StringBuilder text = new StringBuilder();
        if (below(2) == 0) {
            text.append(setup());
            for (int change = below(3); change >= 0; change--) {
                int start = below(text.length());
                int end = Math.min(text.length(), start + below(4));
                text.replace(start, end, below(3) == 0 ? "" : pick(WORDS));
            }
        } else {
            for (int words = below(25); words > 0; words--) {
                text.append(pick(WORDS)).append(pick(" ", " ", ""));
            }
        }
        text.setLength(Math.min(500, text.length()));
        return text.toString();
    }

    private static void texts() {
        BallotBus bus = new BallotBus();
        Model model = new Model();
        calls = 0;
        while (calls <= CALLS - TEXT_CALLS) {
            parse(bus, model, strange());
        }
    }

    private static void play(int run) {
        BallotBus bus = new BallotBus();
        Model model = new Model();
        calls = 0;
        if (below(20) != 0) {
            parse(bus, model, setup());
        }
        while (calls <= CALLS - TEXT_CALLS) {
            String name = below(3) == 0 ? pick(CHANGES) : below(20) == 0 ? pick(DEAR) : pick(ASKS);
            if (below(150) == 0) {
                parse(bus, model, below(3) == 0 ? setup() : strange());
            } else if (below(60) == 0) {
                put(bus, model, pick("a", "b", "e", "p", "q", "abcdef", " a", ""));
                boolean asker = below(2) == 0;
                calls++;
                Check.is("find", bus.find(asker), model.find(asker));
            } else {
                compare("run " + run + " call " + (calls + 1) + " ", bus, model, name);
            }
        }
    }

    private static int argument(String name, int index, Model model) {
        if (below(40) == 0) {
            return pick("m", "o", "o").equals("m") ? Integer.MIN_VALUE : Integer.MAX_VALUE;
        }
        int small = below(8) - 1 + below(2) * below(5);
        switch (name) {
            case "count": return below(20) - 2;
            case "asker": case "kind": return index == 0 ? below(model.world.askers() + 1) : below(12) - 1;
            case "request": case "answeredIn": case "cancel":
                return index > 0 ? name.equals("answeredIn") ? ticks() : small
                    : below(4) == 0 || model.world.jobs.isEmpty() ? below(60) - 1
                        : model.world.jobs.get(below(model.world.jobs.size())).serial;
            case "answer": return index == 0 ? below(65) - 1 : small;
            case "line": return index == 0 ? below(5) : below(below(2) == 0 ? 3 : 25);
            case "outputByte": return below(50) - 1;
            case "run": return below(10) == 0 ? below(510) - 3 : 1 + below(5);
            case "bestTally": case "bestBallot": return ticks();
            case "answersIn": return index == 0 ? ticks() : small;
            case "bestVeto": return index == 1 ? ticks() : below(model.world.askers());
            case "ask": return index == 2 ? below(below(2) == 0 ? 25 : 5) : below(model.world.kinds());
            case "cast":
                return below(8) == 0 ? below(99999) : code(model);
            case "veto": return index == 0 ? below(model.world.askers()) : below(model.world.kinds());
            case "isDecisive": case "distance": case "share": case "silentIn": case "payBack":
                return below(8) == 0 ? small : below(model.world.askers());
            default: return below(8) == 0 ? small : below(model.world.kinds());
        }
    }

    private static int ticks() {
        return below(12) == 0 ? below(510) - 3 : 1 + below(40);
    }

    private static int code(Model model) {
        int code = 0;
        int used = 0;
        while (used != (1 << model.world.kinds()) - 1) {
            int kind = below(model.world.kinds());
            if ((used & 1 << kind) == 0) {
                used |= 1 << kind;
                code = code * 10 + kind;
            }
        }
        return code;
    }

    private static void compare(String where, BallotBus bus, Model model, String name) {
        int a = argument(name, 0, model);
        int b = argument(name, 1, model);
        int c = argument(name, 2, model);
        String due;
        String got;
        calls++;
        try {
            due = "" + model.call(name, a, b, c);
        } catch (RuntimeException e) {
            due = e.getClass().getSimpleName();
        }
        try {
            got = "" + call(bus, name, a, b, c);
        } catch (RuntimeException e) {
            got = e.getClass().getSimpleName();
        }
        Check.is(where + name + "(" + a + ", " + b + ", " + c + ")", got, due);
    }

    private static double call(BallotBus bus, String name, int a, int b, int c) {
        switch (name) {
            case "count": return bus.count(a);
            case "asker": return bus.asker(a, b);
            case "kind": return bus.kind(a, b);
            case "ballot": return bus.ballot(a, b);
            case "order": return bus.order(a);
            case "request": return bus.request(a, b);
            case "line": return bus.line(a, b);
            case "progress": return bus.progress();
            case "answer": return bus.answer(a, b);
            case "points": return bus.points(a);
            case "firsts": return bus.firsts(a, b);
            case "beats": return bus.beats(a, b) ? 1 : 0;
            case "wins": return bus.wins(a);
            case "champion": return bus.champion();
            case "voted": return bus.voted(a, b);
            case "isDecisive": return bus.isDecisive(a) ? 1 : 0;
            case "votes": return bus.votes();
            case "differences": return bus.differences(a, b);
            case "distance": return bus.distance(a);
            case "middle": return bus.middle(a);
            case "meanWait": return bus.meanWait(a);
            case "share": return bus.share(a);
            case "debts": return bus.debts();
            case "richest": return bus.richest();
            case "errorCode": return bus.errorCode();
            case "errorOffset": return bus.errorOffset();
            case "outputByte": return bus.outputByte(a);
            case "printOrder": return bus.printOrder();
            case "run": return bus.run(a);
            case "ask": return bus.ask(a, b, c);
            case "cancel": return bus.cancel(a);
            case "cast": return bus.cast(a);
            case "veto": return bus.veto(a, b);
            case "payBack": return bus.payBack(a);
            case "setTally": return bus.setTally(a);
            case "setManner": return bus.setManner(a, b);
            case "undo": return bus.undo();
            case "answeredIn": return bus.answeredIn(a, b);
            case "answersIn": return bus.answersIn(a, b);
            case "bestVeto": return bus.bestVeto(a, b);
            case "bestTally": return bus.bestTally(a);
            case "bestBallot": return bus.bestBallot(a);
            case "silentIn": return bus.silentIn(a);
            case "emptyIn": return bus.emptyIn();
            case "saveState": return bus.saveState();
            case "restoreState": return bus.restoreState();
            default: throw new AssertionError(name);
        }
    }
}
