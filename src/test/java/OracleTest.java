import java.util.Random;

/** Random runs of calls, of at most 512 each, on the class and on the Oracle: the answers must be the same. */
public final class OracleTest {
    private static final String[] VARS = {"age", "memory", "since", "year", "which", "seen", "far", "across", "down"};
    private static final int RUNS = 1500;

    private final Random random;
    private final Due due;
    private TurfGiving x = new TurfGiving();
    private Oracle o = new Oracle();
    private int calls = 0;
    private int run;
    static final int[] faults = new int[6];

    private OracleTest(int run, Due due) {
        this.run = run;
        this.random = new Random(run * 7919L + 5);
        this.due = due;
    }

    public static void main(String[] args) {
        Due due = new Due();
        for (int run = 0; run < RUNS && due.wrong() < 40; run++) {
            new OracleTest(run, due).go();
        }
        for (int fault = 0; fault <= 5; fault++) {
            System.out.println("texts with fault " + fault + ": " + faults[fault]);
            due.is("some texts have fault " + fault, faults[fault] > 20, true);
        }
        due.end();
    }

    private int below(int n) {
        return random.nextInt(n);
    }

    /** Mostly a number that is there, now and then one just outside or far off. */
    private int near(int many) {
        int kind = below(30);
        if (kind == 0) {
            return -1 - below(2);
        }
        if (kind == 1) {
            return many + below(2);
        }
        if (kind == 2) {
            return below(2) == 0 ? Integer.MIN_VALUE : Integer.MAX_VALUE;
        }
        return many <= 0 ? 0 : below(many);
    }

    private void same(String call, long got, long want) {
        calls++;
        due.is("run " + run + " call " + calls + ": " + call, got, want);
    }

    private void same(String call, boolean got, boolean want) {
        same(call, got ? 1 : 0, want ? 1 : 0);
    }

    private void go() {
        while (calls < 400) {
            readText();
            int some = below(100);
            for (int i = 0; i < some && calls < 500; i++) {
                call();
            }
        }
    }

    private void readText() {
        byte[] text = Due.bytes(Texts.some(random));
        int length = Math.min(text.length, 2000);
        int whole = (length + 19) / 20 * 20;
        for (int at = 0; at < whole; at += 20) {
            int[] five = new int[5];
            for (int i = 0; i < 20; i++) {
                int b = at + i < length ? text[at + i] & 255 : below(256);
                five[i / 4] = five[i / 4] << 8 | b;
            }
            same("feed", x.feed(five[0], five[1], five[2], five[3], five[4]), o.feed(five));
        }
        same("back", x.back(whole - length), o.back(whole - length));
        if (below(10) == 0) {
            int n = near(length + 1);
            same("back " + n, x.back(n), o.back(n));
        }
        int want = o.read();
        faults[want]++;
        same("read of " + new String(text, 0, length), x.read(), want);
        same("place of " + new String(text, 0, length), x.place(), o.place());
    }

    private void call() {
        int people = o.count(0);
        int plots = o.count(1);
        int witnesses = o.count(2);
        int givings = o.count(3);
        int plot = near(plots);
        int person = near(people);
        int other = near(people);
        int witness = near(witnesses);
        int giving = near(givings);
        int n = below(3) == 0 ? near(61) : near(12);
        int two = near(2);
        int i = near(5) - 1;
        boolean yes = below(2) == 0;
        switch (below(44)) {
            case 0 -> {
                int w = near(5);
                same("plot " + plot + " " + w, x.plot(plot, w), o.plot(plot, w));
            }
            case 1 -> {
                int w = near(5);
                same("witness " + witness + " " + w, x.witness(witness, w), o.witness(witness, w));
            }
            case 2, 3 -> {
                int w = near(9);
                same("giving " + giving + " " + w, x.giving(giving, w), o.giving(giving, w));
            }
            case 4, 5, 6 -> {
                int set = below(4) == 0 ? near(1 << witnesses) : near(1 << witnesses) & o.count(5);
                same("give " + plot + " " + person + " " + other + " " + set, x.give(plot, person, other, set),
                        o.give(plot, person, other, set));
            }
            case 7 -> same("unsay " + giving + " " + yes, x.unsay(giving, yes), o.unsay(giving, yes));
            case 8, 9 -> same("years " + n, x.years(n), o.years(n));
            case 10, 11 -> same("undo", x.undo(), o.undo());
            case 12 -> same("lasts " + giving, x.lasts(giving), o.lasts(giving));
            case 13 -> same("book", x.book(), o.book());
            case 14 -> same("hangs " + two, x.hangs(two), o.hangs(two));
            case 15, 16 -> same("cover " + n + " " + i, x.cover(n, i), o.cover(n, i));
            case 17 -> {
                int to = near(plots);
                same("walk " + plot + " " + to, x.walk(plot, to), o.walk(plot, to));
            }
            case 18 -> same("asks " + plot, x.asks(plot), o.asks(plot));
            case 19 -> {
                int set = near(1 << plots);
                int at = near(8) - 1;
                // Every order of seven plots is dear to try: not too often.
                if (Integer.bitCount(set) < 7 || below(10) == 0) {
                    same("round " + set + " " + at, x.round(set, at), o.round(set, at));
                }
            }
            case 20 -> same("has " + person + " " + n, x.has(person, n), o.has(person, n));
            case 21 -> {
                int t = below(3) == 0 ? near(1000) : near(40);
                if (plots < 7 || t < 40) {
                    same("within " + plot + " " + t, x.within(plot, t), o.within(plot, t));
                }
            }
            case 22 -> same("rich " + n + " " + two, x.rich(n, two), o.rich(n, two));
            case 23 -> same("chain " + plot + " " + i, x.chain(plot, i), o.chain(plot, i));
            case 24 -> same("idle " + plot, x.idle(plot), o.idle(plot));
            case 25 -> same("eldest " + two, x.eldest(two), o.eldest(two));
            case 26 -> same("lapse " + n, x.lapse(n), o.lapse(n));
            case 27 -> same("passes " + plot, x.passes(plot), o.passes(plot));
            case 28 -> same("weakest " + two, x.weakest(two), o.weakest(two));
            case 29 -> same("ownerIn " + plot + " " + n, x.ownerIn(plot, n), o.ownerIn(plot, n));
            case 30 -> same("then " + witness + " " + n + " " + two, x.then(witness, n, two), o.then(witness, n, two));
            case 31 -> same("swearIn " + giving + " " + n, x.swearIn(giving, n), o.swearIn(giving, n));
            case 32 -> {
                int s = near(21);
                same("year " + plot + " " + person + " " + n + " " + s, x.year(plot, person, n, s),
                        o.year(plot, person, n, s));
            }
            case 33, 34 -> same("tell " + witness + " " + yes, x.tell(witness, yes), o.tell(witness, yes));
            case 35 -> {
                if (below(6) == 0) {
                    same("forget", x.forget(), o.forget());
                }
            }
            case 36 -> {
                int k = near(o.count(11) + 1);
                same("which " + k + " " + two, x.which(k, two), o.which(k, two));
            }
            case 37 -> {
                int k = near(o.count(11) + 1);
                same("ask " + k, x.ask(k), o.ask(k));
            }
            case 38 -> {
                int slot = near(3);
                same("hold " + slot, x.hold(slot), o.hold(slot));
            }
            case 39 -> {
                int slot = near(3);
                same("restore " + slot, x.restore(slot), o.restore(slot));
            }
            case 40 -> same("place", x.place(), o.place());
            default -> {
                int w = near(16);
                same("count " + w, x.count(w), o.count(w));
            }
        }
    }

    /** Texts at random: many right ones, many that are wrong in one place. */
    private static final class Texts {
        private final Random random;
        private final StringBuilder text = new StringBuilder();

        private Texts(Random random) {
            this.random = random;
        }

        static String some(Random random) {
            Texts texts = new Texts(random);
            texts.write();
            String text = texts.text.toString();
            int kind = random.nextInt(10);
            if (kind < 3) {
                return broken(random, text);
            }
            return kind == 3 ? text + text : text;
        }

        private static String broken(Random random, String text) {
            if (text.isEmpty()) {
                return "?";
            }
            String[] parts = {"", ";", "person", "plot", "0", "99", "100", "10000", "pa", "wb", "qc", "zz", "(", ")",
                "if", "then", "else", "<", "=", "age", "abcdefghi", "\u00e9", "A", ".", "*", "\0", " ", "7"};
            int from = random.nextInt(text.length());
            int to = Math.min(text.length(), from + random.nextInt(8));
            String part = parts[random.nextInt(parts.length)];
            return random.nextInt(6) == 0 ? text.substring(0, from) : text.substring(0, from) + part + text.substring(to);
        }

        private int below(int n) {
            return random.nextInt(n);
        }

        private Texts put(String token) {
            text.append(token);
            text.append(below(40) == 0 ? "\n \t\r" : " ");
            return this;
        }

        /** A number that is mostly as told, seldom too high. */
        private Texts number(int most) {
            return put("" + (below(250) == 0 ? most + 1 : below(most + 1)));
        }

        private Texts name(String sort, int many) {
            int which = below(150) == 0 ? many : below(Math.max(1, many));
            return put(sort + (char) ('a' + which));
        }

        private void write() {
            int people = below(30) == 0 ? 7 : below(7);
            int plots = people == 0 ? 0 : below(40) == 0 ? 8 : below(8);
            int witnesses = below(40) == 0 ? 8 : below(8);
            int givings = people < 2 || plots == 0 ? 0 : below(40) == 0 ? 13 : below(13);
            for (int i = 0; i < people; i++) {
                put("person").put("p" + (char) ('a' + i)).put(";");
            }
            for (int i = 0; i < plots; i++) {
                put("plot").put("q" + (char) ('a' + i)).number(9).number(9).name("p", people).put(";");
            }
            laws();
            for (int i = 0; i < witnesses; i++) {
                put("witness").put("w" + (char) ('a' + i)).number(99).number(99).put(";");
            }
            for (int i = 0; i < givings; i++) {
                giving(people, Math.min(plots, 1 + below(3)), witnesses);
            }
        }

        private void giving(int people, int plots, int witnesses) {
            int from = below(people);
            int to = below(300) == 0 ? from : (from + 1 + below(people - 1)) % people;
            put("giving").name("q", plots).put("p" + (char) ('a' + from)).put("p" + (char) ('a' + to));
            if (below(2) == 0) {
                number(99);
            } else {
                number(9);
            }
            for (int w = 0; w < witnesses; w++) {
                if (below(2) == 0) {
                    put("w" + (char) ('a' + w));
                    if (below(200) == 0) {
                        name("w", witnesses);
                    }
                }
            }
            put(";");
        }

        private void laws() {
            if (below(2) == 0) {
                put("needs").put("" + (below(80) == 0 ? 5 * below(2) : 1 + below(3))).put(";");
            }
            if (below(2) == 0) {
                put("seed").number(9999).put(";");
            }
            int many = below(6);
            for (int i = 0; i < many; i++) {
                switch (below(8)) {
                    case 0 -> put("dies = age / 4 - 5 ;");
                    case 1 -> put("dies = if age < 40 then 1 else if age < 70 then 4 else 15 ;");
                    case 2 -> put("swears = memory + 20 - since * 2 - age / 5 ;");
                    default -> law(new String[] {"swears", "dies", "walks", "asks"}[below(4)]);
                }
            }
        }

        private void law(String which) {
            put(which).put("=");
            int ifs = below(60) == 0 ? 5 : below(3);
            for (int i = 0; i < ifs; i++) {
                put("if");
                sum(3);
                put("<");
                sum(3);
                put("then");
                sum(3);
                put("else");
            }
            sum(below(50) == 0 ? 12 : 4);
            put(";");
        }

        private void sum(int deep) {
            int parts = 1 + below(3);
            for (int i = 0; i < parts; i++) {
                if (i > 0) {
                    put(below(2) == 0 ? "+" : "-");
                }
                int units = 1 + below(10) / 6;
                for (int j = 0; j < units; j++) {
                    if (j > 0) {
                        put(below(2) == 0 ? "*" : "/");
                    }
                    unit(deep);
                }
            }
        }

        private void unit(int deep) {
            int kind = below(10);
            if (deep > 4 || kind == 0 && deep > 0) {
                put("(");
                if (deep > 4) {
                    unit(deep - 1);
                } else {
                    sum(deep - 1);
                }
                put(")");
            } else if (kind < 5) {
                put("" + (below(4) == 0 ? below(10000) : below(12)));
            } else {
                put(VARS[below(VARS.length)]);
            }
        }
    }
}
