import java.util.ArrayList;
import java.util.HashMap;
import java.util.LinkedHashSet;
import java.util.List;
import java.util.Map;
import java.util.Set;

/**
 * The document once more, as naively as can be: trees for LAWS, whole copies for what can be undone, every order of a
 * round tried. It shares no code with the class, so that a slip in one of the two shows.
 */
final class Oracle {
    private static final Set<String> WORDS = Set.of("person", "plot", "witness", "giving", "swears", "dies", "walks",
            "asks", "needs", "seed", "if", "then", "else", "age", "memory", "since", "year", "which", "seen", "far",
            "across", "down");
    private static final Set<String> VARS = Set.of("age", "memory", "since", "year", "which", "seen", "far", "across",
            "down");

    // ---- texts

    private static final class Fault extends RuntimeException {
        private static final long serialVersionUID = 1;
        final int number;
        final int place;

        Fault(int number, int place) {
            super(null, null, false, false);
            this.number = number;
            this.place = place;
        }
    }

    private record Token(char sort, String text, int place) {
    }

    private interface Node {
        int value(Map<String, Integer> vars);
    }

    private record Branch(Node left, Node right, Node then) {
    }

    private record Law(List<Branch> branches, Node last) {
        int value(Map<String, Integer> vars) {
            try {
                for (Branch branch : branches) {
                    if (branch.left.value(vars) < branch.right.value(vars)) {
                        return branch.then.value(vars);
                    }
                }
                return last.value(vars);
            } catch (ArithmeticException divided) {
                return 0;
            }
        }
    }

    private static final class PlotRow {
        int x;
        int y;
        int first;
    }

    private static final class Land {
        final List<String> people = new ArrayList<>();
        final List<PlotRow> plots = new ArrayList<>();
        final List<String> plotNames = new ArrayList<>();
        final List<String> witnessNames = new ArrayList<>();
        final List<Integer> memories = new ArrayList<>();
        final List<Integer> ages = new ArrayList<>();
        final List<Giving> givings = new ArrayList<>();
        final Map<String, Law> laws = new HashMap<>();
        int needs = 1;
        int seed = 0;

        Land() {
            laws.put("swears", new Law(List.of(), v -> v.getOrDefault("memory", 0) - v.getOrDefault("since", 0)));
            laws.put("dies", new Law(List.of(), v -> 0));
            laws.put("walks", new Law(List.of(), v -> v.getOrDefault("far", 0)));
            laws.put("asks", new Law(List.of(), v -> 1));
        }
    }

    private record Giving(int plot, int from, int to, int ago, Set<Integer> before, boolean unsaid) {
        Giving older() {
            return new Giving(plot, from, to, ago + 1, before, unsaid);
        }

        Giving unsaid(boolean un) {
            return new Giving(plot, from, to, ago, before, un);
        }
    }

    private static final class Witness {
        int age;
        int memory;
        boolean alive = true;
    }

    private static final class State {
        int year = 0;
        List<Witness> witnesses = new ArrayList<>();
        List<Giving> givings = new ArrayList<>();

        State copy() {
            State other = new State();
            other.year = year;
            for (Witness w : witnesses) {
                Witness v = new Witness();
                v.age = w.age;
                v.memory = w.memory;
                v.alive = w.alive;
                other.witnesses.add(v);
            }
            other.givings.addAll(givings);
            return other;
        }
    }

    private static final class Reader {
        final String text;
        int at = 0;
        int taken = 0;
        Token token;
        final List<List<Token>> tells = new ArrayList<>();
        List<Token> tell;
        final Map<String, Law> laws = new HashMap<>();

        Reader(String text) {
            this.text = text;
            advance();
        }

        void advance() {
            while (at < text.length() && "\t\n\r ".indexOf(text.charAt(at)) >= 0) {
                at++;
            }
            if (at == text.length()) {
                token = new Token('$', "", at);
                return;
            }
            int from = at;
            String rest = text.substring(at);
            String letters = rest.replaceFirst("(?s)^([a-z]*).*", "$1");
            String digits = rest.replaceFirst("(?s)^([0-9]*).*", "$1");
            if (!letters.isEmpty()) {
                at += letters.length();
                token = new Token(letters.length() > 8 ? '?' : WORDS.contains(letters) ? 'w' : 'n', letters, from);
            } else if (!digits.isEmpty()) {
                at += digits.length();
                token = new Token(digits.length() > 4 ? '?' : 'i', digits, from);
            } else {
                at++;
                char sign = rest.charAt(0);
                token = new Token(";=+-*/<()".indexOf(sign) >= 0 ? 's' : '?', "" + sign, from);
            }
        }

        boolean sees(String word) {
            return (token.sort == 'w' || token.sort == 's') && token.text.equals(word);
        }

        void take(boolean fits) {
            if (!fits) {
                throw new Fault(1, token.place);
            }
            taken++;
            if (taken > 400) {
                throw new Fault(2, token.place);
            }
            tell.add(token);
            advance();
        }

        void name() {
            take(token.sort == 'n');
        }

        void number() {
            take(token.sort == 'i');
        }

        void word(String word) {
            take(sees(word));
        }

        void all() {
            Map<String, Integer> most = Map.of("person", 6, "plot", 7, "witness", 7, "giving", 12);
            Map<String, Integer> had = new HashMap<>();
            while (token.sort != '$') {
                tell = new ArrayList<>();
                tells.add(tell);
                if (token.sort == 'w' && most.containsKey(token.text)) {
                    had.merge(token.text, 1, Integer::sum);
                    if (had.get(token.text) > most.get(token.text)) {
                        throw new Fault(2, token.place);
                    }
                }
                one();
            }
        }

        void one() {
            if (sees("person")) {
                word("person");
                name();
            } else if (sees("plot")) {
                word("plot");
                name();
                number();
                number();
                name();
            } else if (sees("witness")) {
                word("witness");
                name();
                number();
                number();
            } else if (sees("giving")) {
                word("giving");
                name();
                name();
                name();
                number();
                while (token.sort == 'n') {
                    name();
                }
            } else if (sees("needs") || sees("seed")) {
                word(token.text);
                number();
            } else if (sees("swears") || sees("dies") || sees("walks") || sees("asks")) {
                String which = token.text;
                word(which);
                laws.put(which, law());
            } else {
                throw new Fault(1, token.place);
            }
            word(";");
        }

        Law law() {
            word("=");
            List<Branch> branches = new ArrayList<>();
            while (sees("if")) {
                if (branches.size() == 4) {
                    throw new Fault(2, token.place);
                }
                word("if");
                Node left = sum(0);
                word("<");
                Node right = sum(0);
                word("then");
                Node then = sum(0);
                word("else");
                branches.add(new Branch(left, right, then));
            }
            return new Law(branches, sum(0));
        }

        Node sum(int depth) {
            Node node = part(depth);
            while (sees("+") || sees("-")) {
                Node left = node;
                boolean plus = sees("+");
                word(token.text);
                Node right = part(depth);
                node = plus ? v -> left.value(v) + right.value(v) : v -> left.value(v) - right.value(v);
            }
            return node;
        }

        Node part(int depth) {
            Node node = unit(depth);
            while (sees("*") || sees("/")) {
                Node left = node;
                boolean times = sees("*");
                word(token.text);
                Node right = unit(depth);
                node = times ? v -> left.value(v) * right.value(v) : v -> left.value(v) / right.value(v);
            }
            return node;
        }

        Node unit(int depth) {
            if (token.sort == 'i') {
                int number = Integer.parseInt(token.text);
                number();
                return v -> number;
            }
            if (token.sort == 'w' && VARS.contains(token.text)) {
                String var = token.text;
                word(var);
                return v -> v.getOrDefault(var, 0);
            }
            if (sees("(") && depth == 6) {
                throw new Fault(2, token.place);
            }
            word("(");
            Node inside = sum(depth + 1);
            word(")");
            return inside;
        }
    }

    private static int inRange(Token token, int least, int most) {
        int number = Integer.parseInt(token.text);
        if (number < least || number > most) {
            throw new Fault(5, token.place);
        }
        return number;
    }

    private static int known(List<String> names, Token token) {
        int number = names.indexOf(token.text);
        if (number < 0) {
            throw new Fault(4, token.place);
        }
        return number;
    }

    private static Land landOf(String text) {
        Reader reader = new Reader(text);
        reader.all();
        Land land = new Land();
        Set<String> names = new LinkedHashSet<>();
        for (List<Token> tell : reader.tells) {
            String first = tell.get(0).text;
            boolean names1 = first.equals("person") || first.equals("plot") || first.equals("witness");
            if (names1 && !names.add(tell.get(1).text)) {
                throw new Fault(3, tell.get(1).place);
            }
            switch (first) {
                case "person" -> land.people.add(tell.get(1).text);
                case "plot" -> {
                    PlotRow row = new PlotRow();
                    row.x = inRange(tell.get(2), 0, 9);
                    row.y = inRange(tell.get(3), 0, 9);
                    row.first = known(land.people, tell.get(4));
                    land.plots.add(row);
                    land.plotNames.add(tell.get(1).text);
                }
                case "witness" -> {
                    land.ages.add(inRange(tell.get(2), 0, 99));
                    land.memories.add(inRange(tell.get(3), 0, 99));
                    land.witnessNames.add(tell.get(1).text);
                }
                case "giving" -> land.givings.add(givingOf(land, tell));
                case "needs" -> land.needs = inRange(tell.get(1), 1, 4);
                case "seed" -> land.seed = inRange(tell.get(1), 0, 9999);
                default -> {
                }
            }
        }
        land.laws.putAll(reader.laws);
        return land;
    }

    private static Giving givingOf(Land land, List<Token> tell) {
        int plot = known(land.plotNames, tell.get(1));
        int from = known(land.people, tell.get(2));
        int to = known(land.people, tell.get(3));
        if (from == to) {
            throw new Fault(3, tell.get(3).place);
        }
        int ago = inRange(tell.get(4), 0, 99);
        Set<Integer> before = new LinkedHashSet<>();
        for (Token token : tell.subList(5, tell.size() - 1)) {
            if (!before.add(known(land.witnessNames, token))) {
                throw new Fault(3, token.place);
            }
        }
        return new Giving(plot, from, to, ago, before, false);
    }

    // ---- what goes on

    private final StringBuilder tape = new StringBuilder();
    private int place = -1;
    private Land land = new Land();
    private State now = new State();
    private final List<State> done = new ArrayList<>();
    private final State[] slots = new State[3];
    private final List<int[]> told = new ArrayList<>();

    int feed(int... fives) {
        if (tape.length() + 20 > 2000) {
            return -1;
        }
        for (int five : fives) {
            for (int shift = 24; shift >= 0; shift -= 8) {
                tape.append((char) (five >>> shift & 255));
            }
        }
        return tape.length();
    }

    int back(int n) {
        if (n < 0 || n > tape.length()) {
            return -1;
        }
        tape.setLength(tape.length() - n);
        return tape.length();
    }

    int read() {
        String text = tape.toString();
        tape.setLength(0);
        try {
            land = landOf(text);
        } catch (Fault fault) {
            place = fault.place;
            return fault.number;
        }
        place = -1;
        now = new State();
        for (int w = 0; w < land.ages.size(); w++) {
            Witness witness = new Witness();
            witness.age = land.ages.get(w);
            witness.memory = land.memories.get(w);
            now.witnesses.add(witness);
        }
        now.givings.addAll(land.givings);
        done.clear();
        told.clear();
        slots[0] = null;
        slots[1] = null;
        slots[2] = null;
        return 0;
    }

    int place() {
        return place;
    }

    private boolean swears(State s, Giving g, int w) {
        Witness witness = s.witnesses.get(w);
        if (!g.before.contains(w) || !witness.alive) {
            return false;
        }
        return land.laws.get("swears").value(Map.of("age", witness.age, "memory", witness.memory, "since", g.ago, "year",
                s.year, "which", w, "seen", g.before.size())) > 0;
    }

    private Set<Integer> swearers(State s, Giving g) {
        Set<Integer> set = new LinkedHashSet<>();
        for (int w = 0; w < s.witnesses.size(); w++) {
            if (swears(s, g, w)) {
                set.add(w);
            }
        }
        return set;
    }

    private boolean stands(State s, Giving g) {
        return !g.unsaid && swearers(s, g).size() >= land.needs;
    }

    private List<Integer> counting(State s, int plot, boolean byBook) {
        List<Integer> counts = new ArrayList<>();
        int owner = land.plots.get(plot).first;
        for (int g = 0; g < s.givings.size(); g++) {
            Giving giving = s.givings.get(g);
            boolean holds = byBook ? !giving.unsaid : stands(s, giving);
            if (giving.plot == plot && holds && giving.from == owner) {
                owner = giving.to;
                counts.add(g);
            }
        }
        return counts;
    }

    private int owner(State s, int plot, boolean byBook) {
        List<Integer> counts = counting(s, plot, byBook);
        return counts.isEmpty() ? land.plots.get(plot).first : s.givings.get(counts.get(counts.size() - 1)).to;
    }

    private int dies(State s, int w) {
        Witness witness = s.witnesses.get(w);
        int chance = land.laws.get("dies").value(Map.of("age", witness.age, "memory", witness.memory, "year", s.year,
                "which", w));
        return chance < 0 ? 0 : chance > 100 ? 100 : chance;
    }

    private static long lot(long n, long seed, long which) {
        long h = seed & 0xffffffffL;
        for (long it : new long[] {117, which & 0xffffffffL}) {
            h = ((h ^ it) * 1103515245L + 12345L) & 0xffffffffL;
            h = h ^ (h >> 15);
        }
        return (h >> 1) % n;
    }

    private State later(State from, int years, boolean death, int seed) {
        State s = from.copy();
        for (int y = 0; y < years; y++) {
            for (int w = 0; w < s.witnesses.size(); w++) {
                Witness witness = s.witnesses.get(w);
                if (!witness.alive) {
                    continue;
                }
                if (death && lot(100, seed, 8L * s.year + w) < dies(s, w)) {
                    witness.alive = false;
                } else if (witness.age < 999) {
                    witness.age++;
                }
            }
            s.year++;
            s.givings.replaceAll(Giving::older);
        }
        return s;
    }

    private State in(int n) {
        return later(now, n, true, land.seed);
    }

    private static int bits(Iterable<Integer> set) {
        int bits = 0;
        for (int one : set) {
            bits |= 1 << one;
        }
        return bits;
    }

    private boolean isPlot(int plot) {
        return plot >= 0 && plot < land.plots.size();
    }

    private boolean isPerson(int person) {
        return person >= 0 && person < land.people.size();
    }

    private boolean isWitness(int witness) {
        return witness >= 0 && witness < now.witnesses.size();
    }

    private boolean isGiving(int giving) {
        return giving >= 0 && giving < now.givings.size();
    }

    private static boolean isYears(int n) {
        return n >= 0 && n <= 60;
    }

    int plot(int plot, int what) {
        if (!isPlot(plot)) {
            return -1;
        }
        PlotRow row = land.plots.get(plot);
        return switch (what) {
            case 0 -> row.x;
            case 1 -> row.y;
            case 2 -> row.first;
            case 3 -> owner(now, plot, false);
            case 4 -> counting(now, plot, false).size();
            default -> -1;
        };
    }

    int witness(int witness, int what) {
        if (!isWitness(witness)) {
            return -1;
        }
        Witness row = now.witnesses.get(witness);
        return switch (what) {
            case 0 -> row.age;
            case 1 -> row.memory;
            case 2 -> row.alive ? 1 : 0;
            case 3 -> (int) now.givings.stream().filter(g -> swears(now, g, witness)).count();
            case 4 -> dies(now, witness);
            default -> -1;
        };
    }

    int giving(int giving, int what) {
        if (!isGiving(giving)) {
            return -1;
        }
        Giving row = now.givings.get(giving);
        return switch (what) {
            case 0 -> row.plot;
            case 1 -> row.from;
            case 2 -> row.to;
            case 3 -> row.ago;
            case 4 -> bits(row.before);
            case 5 -> bits(swearers(now, row));
            case 6 -> stands(now, row) ? 1 : 0;
            case 7 -> counting(now, row.plot, false).contains(giving) ? 1 : 0;
            case 8 -> row.unsaid ? 1 : 0;
            default -> -1;
        };
    }

    private void keep() {
        done.add(now.copy());
        if (done.size() > 30) {
            done.remove(0);
        }
    }

    int give(int plot, int from, int to, int set) {
        if (!isPlot(plot) || !isPerson(from) || !isPerson(to) || from == to) {
            return -1;
        }
        Set<Integer> before = new LinkedHashSet<>();
        for (int bit = 0; bit < 32; bit++) {
            if ((set >>> bit & 1) == 1) {
                if (!isWitness(bit)) {
                    return -1;
                }
                before.add(bit);
            }
        }
        if (now.givings.size() >= 20 || before.stream().anyMatch(w -> !now.witnesses.get(w).alive)) {
            return -2;
        }
        keep();
        now.givings.add(new Giving(plot, from, to, 0, before, false));
        return now.givings.size() - 1;
    }

    boolean unsay(int giving, boolean un) {
        if (!isGiving(giving) || now.givings.get(giving).unsaid == un) {
            return false;
        }
        keep();
        now.givings.set(giving, now.givings.get(giving).unsaid(un));
        return true;
    }

    int years(int n) {
        if (!isYears(n)) {
            return -1;
        }
        if (n > 0) {
            keep();
            now = in(n);
        }
        return now.year;
    }

    boolean undo() {
        if (done.isEmpty()) {
            return false;
        }
        now = done.remove(done.size() - 1);
        return true;
    }

    int lasts(int giving) {
        if (!isGiving(giving)) {
            return -1;
        }
        State s = now;
        for (int y = 0; y <= 200; y++) {
            if (!stands(s, s.givings.get(giving))) {
                return y;
            }
            s = later(s, 1, false, 0);
        }
        return -2;
    }

    int book() {
        int n = 0;
        for (int p = 0; p < land.plots.size(); p++) {
            n += owner(now, p, true) != owner(now, p, false) ? 1 : 0;
        }
        return n;
    }

    int hangs(int what) {
        if (what != 0 && what != 1) {
            return -1;
        }
        int best = -2;
        int most = -2;
        for (int w = 0; w < now.witnesses.size(); w++) {
            if (now.witnesses.get(w).alive) {
                State s = now.copy();
                s.witnesses.get(w).alive = false;
                int n = 0;
                for (int p = 0; p < land.plots.size(); p++) {
                    n += owner(now, p, false) != owner(s, p, false) ? 1 : 0;
                }
                if (n > most) {
                    most = n;
                    best = w;
                }
            }
        }
        return what == 0 ? best : most;
    }

    private boolean covers(List<Integer> set, int n) {
        State s = now.copy();
        for (int w : set) {
            if (!s.witnesses.get(w).alive) {
                return false;
            }
        }
        s.givings.add(new Giving(0, 0, 0, 0, new LinkedHashSet<>(set), false));
        for (int y = 0; y <= n; y++) {
            if (!stands(s, s.givings.get(s.givings.size() - 1))) {
                return false;
            }
            s = later(s, 1, false, 0);
        }
        return true;
    }

    private List<Integer> firstCover(int n, int size, int from, List<Integer> set) {
        if (set.size() == size) {
            return covers(set, n) ? set : null;
        }
        for (int w = from; w < now.witnesses.size(); w++) {
            List<Integer> more = new ArrayList<>(set);
            more.add(w);
            List<Integer> found = firstCover(n, size, w + 1, more);
            if (found != null) {
                return found;
            }
        }
        return null;
    }

    int cover(int n, int i) {
        if (!isYears(n) || i < -1 || i > 3) {
            return -1;
        }
        for (int size = 0; size <= 4; size++) {
            List<Integer> set = firstCover(n, size, 0, new ArrayList<>());
            if (set != null) {
                return i == -1 ? set.size() : i < set.size() ? set.get(i) : -1;
            }
        }
        return -2;
    }

    int walk(int plot, int to) {
        if (!isPlot(plot) || !isPlot(to)) {
            return -1;
        }
        PlotRow a = land.plots.get(plot);
        PlotRow b = land.plots.get(to);
        int time = land.laws.get("walks").value(Map.of("far", Math.abs(a.x - b.x) + Math.abs(a.y - b.y), "across", b.x,
                "down", b.y, "year", now.year));
        return time < 0 ? 0 : time > 99 ? 99 : time;
    }

    int asks(int plot) {
        if (!isPlot(plot)) {
            return -1;
        }
        PlotRow a = land.plots.get(plot);
        int time = land.laws.get("asks").value(Map.of("across", a.x, "down", a.y, "year", now.year));
        return time < 0 ? 0 : time > 99 ? 99 : time;
    }

    private int time(List<Integer> order) {
        int time = 0;
        for (int i = 0; i < order.size(); i++) {
            time += asks(order.get(i)) + (i > 0 ? walk(order.get(i - 1), order.get(i)) : 0);
        }
        return time;
    }

    private List<Integer> bestOrder;
    private int mostCut;

    private void tryOrders(List<Integer> order, List<Integer> rest) {
        if (rest.isEmpty() && (bestOrder == null || time(order) < time(bestOrder))) {
            bestOrder = new ArrayList<>(order);
        }
        for (int i = 0; i < rest.size(); i++) {
            List<Integer> less = new ArrayList<>(rest);
            List<Integer> more = new ArrayList<>(order);
            more.add(less.remove(i));
            tryOrders(more, less);
        }
    }

    private void tryWithin(List<Integer> order, int t) {
        if (time(order) > t) {
            return;
        }
        mostCut = Math.max(mostCut, order.size());
        for (int p = 0; p < land.plots.size(); p++) {
            if (!order.contains(p)) {
                List<Integer> more = new ArrayList<>(order);
                more.add(p);
                tryWithin(more, t);
            }
        }
    }

    int round(int set, int i) {
        List<Integer> plots = new ArrayList<>();
        for (int bit = 0; bit < 32; bit++) {
            if ((set >>> bit & 1) == 1) {
                if (!isPlot(bit)) {
                    return -1;
                }
                plots.add(bit);
            }
        }
        if (i < -1 || i >= plots.size()) {
            return -1;
        }
        bestOrder = null;
        tryOrders(List.of(), plots);
        return i == -1 ? time(bestOrder) : bestOrder.get(i);
    }

    private int plotsOf(State s, int person) {
        int n = 0;
        for (int p = 0; p < land.plots.size(); p++) {
            n += owner(s, p, false) == person ? 1 : 0;
        }
        return n;
    }

    int has(int person, int n) {
        return isPerson(person) && isYears(n) ? plotsOf(in(n), person) : -1;
    }

    int within(int plot, int t) {
        if (!isPlot(plot) || t < 0 || t > 999) {
            return -1;
        }
        mostCut = 0;
        tryWithin(List.of(plot), t);
        return mostCut;
    }

    int rich(int n, int what) {
        if (!isYears(n) || what < 0 || what > 1) {
            return -1;
        }
        State s = in(n);
        int best = -2;
        int most = -2;
        for (int p = 0; p < land.people.size(); p++) {
            int plots = plotsOf(s, p);
            if (plots > most) {
                most = plots;
                best = p;
            }
        }
        return what == 0 ? best : most;
    }

    int chain(int plot, int i) {
        if (!isPlot(plot) || i < -1) {
            return -1;
        }
        List<Integer> owners = new ArrayList<>();
        owners.add(land.plots.get(plot).first);
        for (int g : counting(now, plot, false)) {
            owners.add(now.givings.get(g).to);
        }
        return i == -1 ? owners.size() : i < owners.size() ? owners.get(i) : -1;
    }

    int idle(int plot) {
        if (!isPlot(plot)) {
            return -1;
        }
        int idle = 0;
        for (int g = 0; g < now.givings.size(); g++) {
            if (giving(g, 0) == plot && giving(g, 6) == 1 && giving(g, 7) == 0) {
                idle |= 1 << g;
            }
        }
        return idle;
    }

    int eldest(int what) {
        if (what < 0 || what > 1) {
            return -1;
        }
        int best = -2;
        int most = -2;
        for (int w = 0; w < now.witnesses.size(); w++) {
            if (now.witnesses.get(w).alive && now.witnesses.get(w).age > most) {
                best = w;
                most = now.witnesses.get(w).age;
            }
        }
        return what == 0 ? best : most;
    }

    int lapse(int n) {
        if (!isYears(n)) {
            return -1;
        }
        State s = in(n);
        int lapsed = 0;
        for (int g = 0; g < now.givings.size(); g++) {
            lapsed += stands(now, now.givings.get(g)) && !stands(s, s.givings.get(g)) ? 1 : 0;
        }
        return lapsed;
    }

    int passes(int plot) {
        if (!isPlot(plot)) {
            return -1;
        }
        State s = now;
        for (int y = 1; y <= 200; y++) {
            s = later(s, 1, true, land.seed);
            if (owner(s, plot, false) != owner(now, plot, false)) {
                return y;
            }
        }
        return -2;
    }

    int weakest(int what) {
        if (what < 0 || what > 1) {
            return -1;
        }
        int best = -2;
        int fewest = -2;
        for (int g = 0; g < now.givings.size(); g++) {
            int n = swearers(now, now.givings.get(g)).size();
            if (giving(g, 7) == 1 && (best == -2 || n < fewest)) {
                best = g;
                fewest = n;
            }
        }
        return what == 0 ? best : fewest;
    }

    int ownerIn(int plot, int n) {
        return isPlot(plot) && isYears(n) ? owner(in(n), plot, false) : -1;
    }

    int then(int witness, int n, int what) {
        if (!isWitness(witness) || !isYears(n) || what < 0 || what > 1) {
            return -1;
        }
        Witness row = in(n).witnesses.get(witness);
        return what == 0 ? row.age : row.alive ? 1 : 0;
    }

    int swearIn(int giving, int n) {
        if (!isGiving(giving) || !isYears(n)) {
            return -1;
        }
        State s = in(n);
        return swearers(s, s.givings.get(giving)).size();
    }

    int year(int plot, int person, int n, int s) {
        if (!isPlot(plot) || !isPerson(person) || !isYears(n) || s < 1 || s > 20) {
            return -1;
        }
        int times = 0;
        for (int i = 0; i < s; i++) {
            times += owner(later(now, n, true, land.seed + i), plot, false) == person ? 1 : 0;
        }
        return times;
    }

    int tell(int witness, boolean swears) {
        if (!isWitness(witness) || told.size() == 20) {
            return -1;
        }
        told.add(new int[] {witness, swears ? 1 : 0});
        return told.size() - 1;
    }

    int forget() {
        int n = told.size();
        told.clear();
        return n;
    }

    private List<Integer> left(List<int[]> known) {
        List<Integer> left = new ArrayList<>();
        for (int g = 0; g < now.givings.size(); g++) {
            Giving giving = now.givings.get(g);
            if (known.stream().allMatch(t -> swears(now, giving, t[0]) == (t[1] == 1))) {
                left.add(g);
            }
        }
        return left;
    }

    int which(int k, int what) {
        if (k < 0 || k > told.size() || what < 0 || what > 1) {
            return -1;
        }
        List<Integer> left = left(told.subList(0, k));
        return what == 0 ? left.size() : bits(left);
    }

    int ask(int k) {
        if (k < 0 || k > told.size()) {
            return -1;
        }
        if (left(told.subList(0, k)).isEmpty()) {
            return -2;
        }
        int best = -2;
        int fewest = 99;
        for (int w = 0; w < now.witnesses.size(); w++) {
            int worst = 0;
            for (int answer = 0; answer <= 1; answer++) {
                List<int[]> more = new ArrayList<>(told.subList(0, k));
                more.add(new int[] {w, answer});
                worst = Math.max(worst, left(more).size());
            }
            if (worst < fewest) {
                fewest = worst;
                best = w;
            }
        }
        return best;
    }

    boolean hold(int slot) {
        if (slot < 0 || slot > 2) {
            return false;
        }
        slots[slot] = now.copy();
        return true;
    }

    boolean restore(int slot) {
        if (slot < 0 || slot > 2 || slots[slot] == null) {
            return false;
        }
        now = slots[slot].copy();
        done.clear();
        return true;
    }

    int count(int what) {
        int n = 0;
        switch (what) {
            case 0:
                return land.people.size();
            case 1:
                return land.plots.size();
            case 2:
                return now.witnesses.size();
            case 3:
                return now.givings.size();
            case 4:
                return now.year;
            case 5:
                for (int w = 0; w < now.witnesses.size(); w++) {
                    n |= now.witnesses.get(w).alive ? 1 << w : 0;
                }
                return n;
            case 6:
            case 7:
            case 8:
                for (int g = 0; g < now.givings.size(); g++) {
                    n |= giving(g, what) << g;
                }
                return n;
            case 9:
                return tape.length();
            case 10:
                return done.size();
            case 11:
                return told.size();
            case 12:
                return (slots[0] == null ? 0 : 1) + (slots[1] == null ? 0 : 1) + (slots[2] == null ? 0 : 1);
            case 13:
                return land.needs;
            case 14:
                for (int p = 0; p < land.plots.size(); p++) {
                    n += owner(now, p, false) != land.plots.get(p).first ? 1 : 0;
                }
                return n;
            case 15:
                for (Giving g : now.givings) {
                    n += swearers(now, g).size();
                }
                return n;
            default:
                return -1;
        }
    }
}
