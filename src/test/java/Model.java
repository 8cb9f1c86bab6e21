import java.util.ArrayDeque;
import java.util.ArrayList;
import java.util.Arrays;
import java.util.Comparator;
import java.util.Deque;
import java.util.List;
import java.util.NoSuchElementException;
import java.util.regex.Matcher;
import java.util.regex.Pattern;

/** A second bus, written from the document with the Java library, to compare the first one with. */
final class Model {
    static final class Job {
        int serial, asker, kind, length, left, time;

        Job(int serial, int asker, int kind, int length, int time) {
            this.serial = serial;
            this.asker = asker;
            this.kind = kind;
            this.length = length;
            this.left = length;
            this.time = time;
        }

        Job copy() {
            Job job = new Job(serial, asker, kind, length, time);
            job.left = left;
            return job;
        }
    }

    /** The setup and all that goes on with it. */
    static final class World {
        List<String> kindNames = new ArrayList<>(), askerNames = new ArrayList<>();
        List<Integer> manners = new ArrayList<>(), credits = new ArrayList<>(), weights = new ArrayList<>();
        List<Integer> debts = new ArrayList<>(), silences = new ArrayList<>(), vetoes = new ArrayList<>();
        List<List<Integer>> ballots = new ArrayList<>();
        List<Integer> order = new ArrayList<>();
        List<Job> jobs = new ArrayList<>();
        List<int[]> answers = new ArrayList<>();
        List<Boolean> vetoed = new ArrayList<>();
        int tally = 0, turn = 3, round = 6, veto = 10, line = 0, silence = 3;
        int time = 0, asked = 0, holder = 0, votings = 0;
        boolean cast = false;
        Job current = null;

        World copy() {
            World world = new World();
            world.kindNames.addAll(kindNames);
            world.askerNames.addAll(askerNames);
            world.manners.addAll(manners);
            world.credits.addAll(credits);
            world.weights.addAll(weights);
            world.debts.addAll(debts);
            world.silences.addAll(silences);
            world.vetoes.addAll(vetoes);
            for (List<Integer> ballot : ballots) {
                world.ballots.add(new ArrayList<>(ballot));
            }
            world.order.addAll(order);
            for (Job job : jobs) {
                world.jobs.add(job.copy());
                if (job == current) {
                    world.current = world.jobs.get(world.jobs.size() - 1);
                }
            }
            world.answers.addAll(answers);
            world.vetoed.addAll(vetoed);
            world.tally = tally;
            world.turn = turn;
            world.round = round;
            world.veto = veto;
            world.line = line;
            world.silence = silence;
            world.time = time;
            world.asked = asked;
            world.holder = holder;
            world.votings = votings;
            world.cast = cast;
            return world;
        }

        int kinds() {
            return kindNames.size();
        }

        int askers() {
            return askerNames.size();
        }

        void start() {
            for (int kind = 0; kind < kinds(); kind++) {
                order.add(kind);
                vetoed.add(false);
            }
            for (int asker = 0; asker < askers(); asker++) {
                ballots.add(new ArrayList<>(order));
                debts.add(0);
                silences.add(0);
                vetoes.add(0);
            }
        }

        boolean heard(int asker, int without) {
            return asker != without && silences.get(asker) < silence;
        }

        int weight(int without) {
            int sum = 0;
            for (int asker = 0; asker < askers(); asker++) {
                sum += heard(asker, without) ? weights.get(asker) : 0;
            }
            return sum;
        }

        int points(int kind, int without) {
            int sum = 0;
            for (int asker = 0; asker < askers(); asker++) {
                if (heard(asker, without)) {
                    sum += weights.get(asker) * (kinds() - 1 - ballots.get(asker).indexOf(kind));
                }
            }
            return sum;
        }

        int firsts(int kind, int place, int without) {
            int sum = 0;
            for (int asker = 0; asker < askers(); asker++) {
                sum += heard(asker, without) && ballots.get(asker).get(place) == kind ? weights.get(asker) : 0;
            }
            return sum;
        }

        boolean beats(int kind, int other, int without) {
            int sum = 0;
            for (int asker = 0; asker < askers(); asker++) {
                if (kind != other && heard(asker, without)) {
                    List<Integer> ballot = ballots.get(asker);
                    sum += (ballot.indexOf(kind) < ballot.indexOf(other) ? 1 : -1) * weights.get(asker);
                }
            }
            return sum > 0;
        }

        int wins(int kind, int without) {
            int sum = 0;
            for (int other = 0; other < kinds(); other++) {
                sum += beats(kind, other, without) ? 1 : 0;
            }
            return sum;
        }

        List<Integer> voted(int tally, int without) {
            if (weight(without) == 0) {
                return new ArrayList<>(order);
            }
            List<Integer> row = new ArrayList<>();
            for (int kind = 0; kind < kinds(); kind++) {
                row.add(kind);
            }
            Comparator<Integer> rule = (kind, other) -> 0;
            if (tally == 2) {
                rule = rule.thenComparing(kind -> -wins(kind, without));
            }
            for (int place = 0; place < kinds() && tally == 1; place++) {
                int here = place;
                rule = rule.thenComparing(kind -> -firsts(kind, here, without));
            }
            if (tally != 1) {
                rule = rule.thenComparing(kind -> -points(kind, without));
            }
            row.sort(rule.thenComparing(kind -> kind));
            return row;
        }

        List<Job> line(int kind) {
            List<Job> row = new ArrayList<>();
            for (Job job : jobs) {
                if (job.kind == kind && job != current) {
                    row.add(job);
                }
            }
            int manner = manners.get(kind);
            Comparator<Job> rule = Comparator.comparing(job -> manner == 1 ? job.length
                : manner == 2 ? -credits.get(job.asker) : manner == 3 ? -debts.get(job.asker) : 0);
            row.sort(rule.thenComparing(job -> job.serial));
            return row;
        }

        void tick() {
            if (time % round == 0) {
                order = voted(tally, -1);
                vetoed.replaceAll(old -> false);
                votings++;
            }
            if (time > 0 && time % turn == 0) {
                silences.set(holder, Math.min(99, silences.get(holder) + (cast ? 0 : 1)));
                cast = false;
                holder = (holder + 1) % askers();
            }
            for (int kind : order) {
                if (current == null && !vetoed.get(kind) && !line(kind).isEmpty()) {
                    current = line(kind).get(0);
                }
            }
            if (current != null && --current.left == 0) {
                int asker = current.asker;
                int settled = Math.min(debts.get(asker), current.length);
                debts.set(asker, debts.get(asker) - settled);
                credits.set(asker, Math.min(999, credits.get(asker) + current.length - settled));
                answers.add(new int[] {current.serial, asker, current.kind, current.time, time, settled,
                    current.length});
                jobs.remove(current);
                current = null;
            }
            time++;
        }

        int answersOf(int asker) {
            int sum = 0;
            for (int[] answer : answers) {
                sum += asker == -1 || answer[1] == asker ? 1 : 0;
            }
            return sum;
        }

        int answersIn(int ticks, int asker) {
            World later = copy();
            for (int tick = 0; tick < ticks; tick++) {
                later.tick();
            }
            return later.answersOf(asker) - answersOf(asker);
        }

        boolean canVeto(int asker, int kind) {
            return !vetoed.get(kind)
                && debts.get(asker) + Math.max(0, veto - credits.get(asker)) <= line;
        }

        void veto(int asker, int kind) {
            int paid = Math.min(veto, credits.get(asker));
            credits.set(asker, credits.get(asker) - paid);
            debts.set(asker, debts.get(asker) + veto - paid);
            vetoes.set(asker, vetoes.get(asker) + 1);
            vetoed.set(kind, true);
        }

        void cast(List<Integer> row) {
            ballots.set(holder, row);
            silences.set(holder, 0);
            cast = true;
        }

        Job job(int serial) {
            for (Job job : jobs) {
                if (job.serial == serial) {
                    return job;
                }
            }
            return null;
        }

        /** All orders of the classes, lexicographically. */
        List<List<Integer>> orders() {
            List<List<Integer>> rows = new ArrayList<>();
            extend(rows, new ArrayList<>());
            return rows;
        }

        private void extend(List<List<Integer>> rows, List<Integer> row) {
            if (row.size() == kinds()) {
                rows.add(row);
            }
            for (int kind = 0; kind < kinds(); kind++) {
                if (!row.contains(kind)) {
                    List<Integer> longer = new ArrayList<>(row);
                    longer.add(kind);
                    extend(rows, longer);
                }
            }
        }

        List<Integer> digits(int code) {
            if (code < 0) {
                return null;
            }
            String text = String.format("%0" + kinds() + "d", code);
            List<Integer> row = new ArrayList<>();
            for (char digit : text.toCharArray()) {
                if (digit - '0' >= kinds() || row.contains(digit - '0')) {
                    return null;
                }
                row.add(digit - '0');
            }
            return row.size() == kinds() ? row : null;
        }
    }

    static int inversions(List<Integer> row, List<Integer> other) {
        int sum = 0;
        for (int kind = 0; kind < row.size(); kind++) {
            for (int next = 0; next < kind; next++) {
                sum += row.indexOf(kind) < row.indexOf(next) != other.indexOf(kind) < other.indexOf(next) ? 1 : 0;
            }
        }
        return sum;
    }

    World world = read("class a;asker a credits 0;");
    World saved = null;
    Deque<World> past = new ArrayDeque<>();
    String buffer = "", output = "";
    int code = 0, offset = -1;

    // ---- the setup text, with tokens cut by a pattern

    private static final List<String> QUOTED = Arrays.asList("class", "short", "rich", "owing", "asker", "credits",
        "weight", "tally", "points", "firsts", "pairs", "turn", "round", "veto", "line", "silence", "ask");
    private static final class Fault extends RuntimeException {
        final int code, offset;

        Fault(int code, int offset) {
            this.code = code;
            this.offset = offset;
        }
    }

    private List<String> tokens;
    private List<Integer> offsets;
    private int at;

    private World read(String text) {
        tokens = new ArrayList<>();
        offsets = new ArrayList<>();
        at = 0;
        Matcher matcher = Pattern.compile("[a-z]+|[0-9]+|[^ \n]", Pattern.DOTALL).matcher(text);
        while (matcher.find()) {
            tokens.add(matcher.group());
            offsets.add(matcher.start());
        }
        tokens.add("");
        offsets.add(text.length());
        World world = new World();
        List<String> once = new ArrayList<>();
        while (!tokens.get(at).isEmpty()) {
            statement(world, once);
            literal(";");
        }
        if (world.kinds() == 0 || world.askers() == 0) {
            throw fault(5);
        }
        world.start();
        return world;
    }

    private Fault fault(int number) {
        return new Fault(number, offsets.get(at));
    }

    private boolean isNext(String token) {
        return tokens.get(at).equals(token);
    }

    private void literal(String token) {
        if (!isNext(token)) {
            throw fault(1);
        }
        at++;
    }

    private int number(int least, int most) {
        if (!tokens.get(at).matches("[0-9]{1,3}")) {
            throw fault(1);
        }
        int value = Integer.parseInt(tokens.get(at));
        if (value < least || value > most) {
            throw fault(2);
        }
        at++;
        return value;
    }

    /** A name that the list has, or has not. */
    private String name(List<String> names, boolean known) {
        String name = tokens.get(at);
        if (!name.matches("[a-z]{1,6}") || QUOTED.contains(name)) {
            throw fault(1);
        }
        if (names.contains(name) != known) {
            throw fault(3);
        }
        at++;
        return name;
    }

    private void statement(World world, List<String> once) {
        String first = tokens.get(at);
        if (Arrays.asList("tally", "turn", "round", "veto", "line", "silence").contains(first)) {
            if (once.contains(first)) {
                throw fault(3);
            }
            once.add(first);
        }
        if (first.equals("class") && world.kinds() == 5 || first.equals("asker") && world.askers() == 8
                || first.equals("ask") && world.asked == 40) {
            throw fault(4);
        }
        if (!Arrays.asList("class", "asker", "ask", "tally", "turn", "round", "veto", "line", "silence")
                .contains(first)) {
            throw fault(1);
        }
        at++;
        switch (first) {
            case "class":
                world.kindNames.add(name(world.kindNames, false));
                int manner = Arrays.asList("", "short", "rich", "owing").indexOf(tokens.get(at));
                world.manners.add(Math.max(0, manner));
                at += manner > 0 ? 1 : 0;
                break;
            case "asker":
                world.askerNames.add(name(world.askerNames, false));
                literal("credits");
                world.credits.add(number(0, 999));
                if (isNext("weight")) {
                    at++;
                    world.weights.add(number(1, 9));
                } else {
                    world.weights.add(1);
                }
                break;
            case "ask":
                int asker = world.askerNames.indexOf(name(world.askerNames, true));
                int kind = world.kindNames.indexOf(name(world.kindNames, true));
                world.jobs.add(new Job(world.asked, asker, kind, number(1, 20), 0));
                world.asked++;
                break;
            case "tally":
                world.tally = Arrays.asList("points", "firsts", "pairs").indexOf(tokens.get(at));
                if (world.tally < 0) {
                    throw fault(1);
                }
                at++;
                break;
            case "turn": world.turn = number(1, 20); break;
            case "round": world.round = number(1, 50); break;
            case "veto": world.veto = number(0, 99); break;
            case "line": world.line = number(0, 99); break;
            default: world.silence = number(1, 9);
        }
    }

    int feed(int[] words) {
        if (buffer.length() + 20 > 500) {
            return -1;
        }
        for (int word : words) {
            for (int shift = 24; shift >= 0; shift -= 8) {
                buffer += (char) (word >>> shift & 255);
            }
        }
        return buffer.length();
    }

    int truncate(int length) {
        if (length < 0 || length > buffer.length()) {
            return 0;
        }
        buffer = buffer.substring(0, length);
        return 1;
    }

    int parse() {
        code = 0;
        offset = -1;
        try {
            world = read(buffer);
            past.clear();
            saved = null;
            return world.kinds();
        } catch (Fault fault) {
            code = fault.code;
            offset = fault.offset;
            return -1;
        } finally {
            buffer = "";
        }
    }

    int find(boolean asker) {
        String name = buffer;
        buffer = "";
        return (asker ? world.askerNames : world.kindNames).indexOf(name);
    }

    // ---- checks

    private void index(boolean good) {
        if (!good) {
            throw new IndexOutOfBoundsException();
        }
    }

    private void argument(boolean good) {
        if (!good) {
            throw new IllegalArgumentException();
        }
    }

    private void state(boolean good) {
        if (!good) {
            throw new IllegalStateException();
        }
    }

    private void element(boolean good) {
        if (!good) {
            throw new NoSuchElementException();
        }
    }

    private void kinds(int... values) {
        for (int value : values) {
            index(value >= 0 && value < world.kinds());
        }
    }

    private void askers(int... values) {
        for (int value : values) {
            index(value >= 0 && value < world.askers());
        }
    }

    private void tallies(int... values) {
        for (int value : values) {
            argument(value >= 0 && value <= 2);
        }
    }

    private void ticks(int value, int most) {
        argument(value >= 1 && value <= most);
    }

    private void change() {
        past.push(world.copy());
        if (past.size() > 8) {
            past.removeLast();
        }
    }

    // ---- the calls, by name

    double call(String name, int a, int b, int c) {
        switch (name) {
            case "count": return count(a);
            case "asker": return asker(a, b);
            case "kind": return kind(a, b);
            case "ballot": askers(a); kinds(b); return world.ballots.get(a).get(b);
            case "order": kinds(a); return world.order.get(a);
            case "request": return request(a, b);
            case "line":
                kinds(a);
                element(b >= 0 && b < world.line(a).size());
                return world.line(a).get(b).serial;
            case "progress": return world.current == null ? -1 : world.current.serial;
            case "answer":
                argument(b >= 0 && b <= 5);
                element(a >= 0 && a < Math.min(60, world.answers.size()));
                return world.answers.get(world.answers.size() - 1 - a)[b];
            case "points": kinds(a); return world.points(a, -1);
            case "firsts": kinds(a, b); return world.firsts(a, b, -1);
            case "beats": kinds(a, b); return world.beats(a, b, -1) ? 1 : 0;
            case "wins": kinds(a); return world.wins(a, -1);
            case "champion": return champion();
            case "voted": kinds(b); tallies(a); return world.voted(a, -1).get(b);
            case "isDecisive":
                askers(a);
                return world.heard(a, -1) && !world.voted(world.tally, -1).equals(world.voted(world.tally, a)) ? 1 : 0;
            case "votes": return world.weight(-1);
            case "differences": tallies(a, b); return inversions(world.voted(a, -1), world.voted(b, -1));
            case "distance": askers(a); return inversions(world.ballots.get(a), world.order);
            case "middle": kinds(a); return middle().get(a);
            case "meanWait": return meanWait(a);
            case "share": return share(a);
            case "debts": return world.debts.stream().mapToInt(debt -> debt).sum();
            case "richest": return richest();
            case "errorCode": return code;
            case "errorOffset": return offset;
            case "outputByte": return a >= 0 && a < output.length() ? output.charAt(a) : -1;
            case "printOrder": return printOrder();
            default: return a(name, a, b, c);
        }
    }

    private double a(String name, int a, int b, int c) {
        switch (name) {
            case "run": return run(a);
            case "ask": return ask(a, b, c);
            case "cancel": return cancel(a);
            case "cast": return cast(a);
            case "veto":
                askers(a);
                kinds(b);
                state(world.canVeto(a, b));
                change();
                world.veto(a, b);
                return world.debts.get(a);
            case "payBack": return payBack(a);
            case "setTally": {
                tallies(a);
                change();
                int before = world.tally;
                world.tally = a;
                return before;
            }
            case "setManner":
                kinds(a);
                argument(b >= 0 && b <= 3);
                change();
                return world.manners.set(a, b);
            case "undo":
                state(!past.isEmpty());
                world = past.pop();
                return past.size();
            case "answeredIn": return answeredIn(a, b);
            case "answersIn":
                if (b != -1) {
                    askers(b);
                }
                ticks(a, 500);
                return world.answersIn(a, b);
            case "bestVeto": return bestVeto(a, b);
            case "bestTally": return bestTally(a);
            case "bestBallot": return bestBallot(a);
            case "silentIn": return silentIn(a);
            case "emptyIn": return emptyIn();
            case "saveState":
                saved = world.copy();
                return world.time;
            case "restoreState":
                state(saved != null);
                world = saved.copy();
                past.clear();
                return world.time;
            default: throw new AssertionError(name);
        }
    }

    private int count(int what) {
        int mask = 0;
        for (int kind = 0; kind < world.kinds(); kind++) {
            mask += world.vetoed.get(kind) ? 1 << kind : 0;
        }
        int[] all = {world.kinds(), world.askers(), world.time, world.tally, world.turn, world.round, world.veto,
            world.line, world.silence, world.jobs.size() - (world.current == null ? 0 : 1), world.answers.size(),
            world.asked, world.holder, mask, world.votings, past.size()};
        return what >= 0 && what < all.length ? all[what] : -1;
    }

    private int asker(int asker, int what) {
        askers(asker);
        index(what >= 0 && what <= 9);
        int waiting = 0;
        for (Job job : world.jobs) {
            waiting += job.asker == asker && job != world.current ? 1 : 0;
        }
        int lengths = 0;
        for (int[] answer : world.answers) {
            lengths += answer[1] == asker ? answer[6] : 0;
        }
        int[] all = {world.credits.get(asker), world.debts.get(asker), world.weights.get(asker),
            world.silences.get(asker), world.heard(asker, -1) ? 1 : 0, world.cast && world.holder == asker ? 1 : 0,
            waiting, world.answersOf(asker), lengths, world.vetoes.get(asker)};
        return all[what];
    }

    private int kind(int kind, int what) {
        kinds(kind);
        index(what >= 0 && what <= 5);
        int answered = 0;
        for (int[] answer : world.answers) {
            answered += answer[2] == kind ? 1 : 0;
        }
        List<Job> line = world.line(kind);
        int[] all = {world.manners.get(kind), line.size(), answered, world.order.indexOf(kind),
            world.vetoed.get(kind) ? 1 : 0, line.isEmpty() ? -1 : line.get(0).serial};
        return all[what];
    }

    private int request(int serial, int what) {
        argument(what >= 0 && what <= 4);
        Job job = world.job(serial);
        element(job != null);
        return new int[] {job.asker, job.kind, job.length, job.left, job.time}[what];
    }

    private int champion() {
        for (int kind = 0; kind < world.kinds() && world.weight(-1) > 0; kind++) {
            if (world.wins(kind, -1) == world.kinds() - 1) {
                return kind;
            }
        }
        return -1;
    }

    private List<Integer> middle() {
        List<Integer> best = null;
        int least = Integer.MAX_VALUE;
        for (List<Integer> row : world.orders()) {
            int sum = 0;
            for (int asker = 0; asker < world.askers(); asker++) {
                sum += world.heard(asker, -1) ? world.weights.get(asker) * inversions(row, world.ballots.get(asker)) : 0;
            }
            if (sum < least) {
                least = sum;
                best = row;
            }
        }
        return best;
    }

    private double meanWait(int kind) {
        kinds(kind);
        int sum = 0;
        int number = 0;
        for (int[] answer : world.answers) {
            if (answer[2] == kind) {
                sum += answer[4] - answer[3];
                number++;
            }
        }
        return number == 0 ? 0 : (double) sum / number;
    }

    private float share(int asker) {
        askers(asker);
        int all = 0;
        int own = 0;
        for (int[] answer : world.answers) {
            all += answer[6];
            own += answer[1] == asker ? answer[6] : 0;
        }
        return all == 0 ? 0 : (float) own / all;
    }

    private int richest() {
        int best = 0;
        for (int asker = 0; asker < world.askers(); asker++) {
            if (world.credits.get(asker) - world.debts.get(asker)
                    > world.credits.get(best) - world.debts.get(best)) {
                best = asker;
            }
        }
        return best;
    }

    private int printOrder() {
        output = "";
        for (int kind : world.order) {
            output += (output.isEmpty() ? "" : " > ") + world.kindNames.get(kind) + (world.vetoed.get(kind) ? "*" : "");
        }
        return output.length();
    }

    private int run(int ticks) {
        ticks(ticks, 500);
        change();
        int before = world.answers.size();
        for (int tick = 0; tick < ticks; tick++) {
            world.tick();
        }
        return world.answers.size() - before;
    }

    private int ask(int asker, int kind, int length) {
        askers(asker);
        kinds(kind);
        argument(length >= 1 && length <= 20);
        state(world.jobs.size() < 40);
        change();
        world.jobs.add(new Job(world.asked, asker, kind, length, world.time));
        return world.asked++;
    }

    private int cancel(int serial) {
        Job job = world.job(serial);
        state(job == null || job != world.current);
        element(job != null);
        change();
        world.jobs.remove(job);
        return job.length;
    }

    private int cast(int number) {
        List<Integer> row = world.digits(number);
        argument(row != null);
        change();
        world.cast(row);
        return world.holder;
    }

    private int payBack(int asker) {
        askers(asker);
        change();
        int paid = Math.min(world.debts.get(asker), world.credits.get(asker));
        world.debts.set(asker, world.debts.get(asker) - paid);
        world.credits.set(asker, world.credits.get(asker) - paid);
        return paid;
    }

    private int answeredIn(int serial, int ticks) {
        ticks(ticks, 500);
        element(world.job(serial) != null);
        World later = world.copy();
        for (int tick = 1; tick <= ticks; tick++) {
            later.tick();
            if (later.job(serial) == null) {
                return tick;
            }
        }
        return -1;
    }

    private int bestVeto(int asker, int ticks) {
        askers(asker);
        ticks(ticks, 500);
        int most = world.answersIn(ticks, asker);
        int best = -1;
        for (int kind = 0; kind < world.kinds(); kind++) {
            World other = world.copy();
            if (other.canVeto(asker, kind)) {
                other.veto(asker, kind);
                int answers = other.answersIn(ticks, asker);
                if (answers > most) {
                    most = answers;
                    best = kind;
                }
            }
        }
        return best;
    }

    private int bestTally(int ticks) {
        ticks(ticks, 500);
        int[] answers = new int[3];
        for (int tally = 0; tally < 3; tally++) {
            World other = world.copy();
            other.tally = tally;
            answers[tally] = other.answersIn(ticks, -1);
        }
        int most = Arrays.stream(answers).max().getAsInt();
        return answers[0] == most ? 0 : answers[1] == most ? 1 : 2;
    }

    private int bestBallot(int ticks) {
        ticks(ticks, 100);
        int most = -1;
        String best = "";
        for (List<Integer> row : world.orders()) {
            World other = world.copy();
            other.cast(row);
            int answers = other.answersIn(ticks, world.holder);
            if (answers > most) {
                most = answers;
                best = "";
                for (int kind : row) {
                    best += kind;
                }
            }
        }
        return Integer.parseInt(best);
    }

    private int silentIn(int asker) {
        askers(asker);
        World later = world.copy();
        for (int tick = 0; tick <= 1000; tick++) {
            if (!later.heard(asker, -1)) {
                return tick;
            }
            later.tick();
        }
        return -1;
    }

    private int emptyIn() {
        World later = world.copy();
        for (int tick = 0; tick <= 1000; tick++) {
            if (later.jobs.isEmpty()) {
                return tick;
            }
            later.tick();
        }
        return -1;
    }
}
