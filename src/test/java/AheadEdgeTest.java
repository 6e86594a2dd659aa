/** The edges of what would be, sentence by sentence: the third part of the Terms, promises 13 to 16 and 19 to 32. */
public final class AheadEdgeTest {
    private static final Due due = new Due();
    private static final int LEAST = Integer.MIN_VALUE;
    private static final int MOST = Integer.MAX_VALUE;
    /** Two people, two plots, three witnesses, two givings. */
    private static final String LAND = "person a;person b;plot p 1 2 a;plot q 3 5 b;witness u 50 20;witness v 10 9;"
            + "witness w 70 30;giving p a b 3 u v;giving q b a 8 v;";
    private static final String ONE = "person a;person b;plot p 0 0 a;witness w 50 10;giving p a b 0 w;swears = ";
    private static final int[] NO_PERSON_OR_PLOT = {LEAST, -33, -2, -1, 2, 3, 5, 6, 7, 32, 33, MOST};
    private static final int[] NO_WITNESS = {LEAST, -33, -2, -1, 3, 6, 7, 32, 33, MOST};
    private static final int[] NO_GIVING = {LEAST, -33, -2, -1, 2, 11, 12, 19, 20, 32, 33, MOST};
    private static final int[] NO_YEARS = {LEAST, -61, -2, -1, 61, 62, 120, 200, MOST};
    private static final int[] NO_WHAT = {LEAST, -2, -1, 2, 3, 32, 33, MOST};

    public static void main(String[] args) {
        lastsYears();
        lastsNobodyDying();
        lastsNone();
        book();
        hangs();
        hangsNobody();
        coverYears();
        coverByFour();
        coverOrder();
        coverAlive();
        coverNone();
        round();
        roundOrder();
        roundNone();
        within();
        withinNone();
        has();
        rich();
        chain();
        idle();
        eldest();
        lapse();
        passes();
        weakest();
        ownerIn();
        then();
        swearIn();
        yearBySeeds();
        fullLand();
        nothingHappens();
        due.end();
    }

    private static void none(String what, int got) {
        due.is(what, got, -1);
    }

    // ---- LASTS, BOOK, HANGS

    private static void lastsYears() {
        due.sentence("LASTS: behind how many YEARS (0 .. 200) a GIVING STANDS no more, nobody dying.");
        for (int years = 0; years <= 200; years++) {
            if (years < 5 || years % 50 < 2 || years > 195) {
                due.is("till year " + years, Due.of(ONE + years + " - year;").lasts(0), years);
                due.is("till " + years + " years old", Due.of(ONE + (50 + years) + " - age;").lasts(0), years);
                due.is("till " + years + " years ago", Due.of(ONE + years + " - since;").lasts(0), years);
            }
        }
        due.is("the first time", Due.of(ONE + "if year < 7 then 1 else if year < 8 then 0 else 1;").lasts(0), 7);
        due.sentence("LASTS (0: not now); -2: for good");
        due.is("200", Due.of(ONE + "200 - year;").lasts(0), 200);
        due.is("201", Due.of(ONE + "201 - year;").lasts(0), -2);
        due.is("for good", Due.of(ONE + "1;").lasts(0), -2);
        due.is("999 years old at most", Due.of(ONE + "1000 - age;").lasts(0), -2);
        due.is("never", Due.of(ONE + "0;").lasts(0), 0);
        due.is("not now, but later", Due.of(ONE + "year;").lasts(0), 0);
        TurfGiving x = Due.of(ONE + "203 - year;");
        due.is("203", x.lasts(0), -2);
        x.years(2);
        due.is("two years later", x.lasts(0), -2);
        x.years(1);
        due.is("three years later", x.lasts(0), 200);
        x.unsay(0, true);
        due.is("unsaid", x.lasts(0), 0);
        due.is("needs two", Due.of(ONE + "1;needs 2;").lasts(0), 0);
        due.is("before nobody", Due.of(ONE + "1;giving p a b 0;").lasts(1), 0);
    }

    private static void lastsNobodyDying() {
        due.sentence("a GIVING STANDS no more, nobody dying");
        due.is("dies surely", Due.of(ONE + "9 - year;dies = 100;").lasts(0), 9);
        TurfGiving x = Due.of(ONE + "9 - year;dies = 100;");
        x.years(1);
        due.is("is dead", x.lasts(0), 0);
        TurfGiving y = Due.of(LAND + "swears = 60 - age;dies = if age < 11 then 100 else 0;");
        due.is("u till 10, v till 50", y.lasts(0), 50);
        y.years(1);
        due.is("v is dead, u till 9", y.lasts(0), 9);
        due.is("v is dead", y.lasts(1), 0);
    }

    private static void lastsNone() {
        due.sentence("NONE: no such GIVING.");
        TurfGiving x = Due.of(LAND);
        for (int giving : NO_GIVING) {
            none("lasts " + giving, x.lasts(giving));
        }
        none("new object", new TurfGiving().lasts(0));
        for (int number = 2; number < 20; number++) {
            x.give(0, 0, 1, 4);
        }
        due.is("the 20th", x.lasts(19), 30);
        none("a 21st", x.lasts(20));
        x.undo();
        none("undone", x.lasts(19));
    }

    private static void book() {
        due.sentence("BOOK: how many PLOTS would be another one's if each GIVING that is not UNSAID stood.");
        due.is("no plots", new TurfGiving().book(), 0);
        due.is("no givings", Due.of("person a;plot p 1 1 a;").book(), 0);
        due.is("all stand", Due.of(LAND).book(), 0);
        due.is("none stands", Due.of(LAND + "swears = 0;").book(), 2);
        due.is("before nobody", Due.of("person a;person b;plot p 1 1 a;giving p a b 1;").book(), 1);
        due.is("not his", Due.of("person a;person b;plot p 1 1 a;giving p b a 1;").book(), 0);
        due.is("there and back", Due.of("person a;person b;plot p 1 1 a;giving p a b 1;giving p b a 1;").book(), 0);
        TurfGiving x = Due.of(LAND + "swears = 0;");
        x.unsay(0, true);
        due.is("one unsaid", x.book(), 1);
        x.unsay(1, true);
        due.is("both unsaid", x.book(), 0);
        TurfGiving seven = Due.of("person a;person b;plot p 1 1 a;plot q 1 1 a;plot r 1 1 a;plot s 1 1 a;plot t 1 1 a;plot u 1 1 a;plot v 1 1 a;"
                + "giving p a b 1;giving q a b 1;giving r a b 1;giving s a b 1;giving t a b 1;giving u a b 1;giving v a b 1;");
        due.is("all seven", seven.book(), 7);
    }

    private static void hangs() {
        due.sentence("HANGS: the WITNESS by whose death now most PLOTS were another one's; of alike ones the first; how many.");
        TurfGiving x = Due.of(LAND);
        due.is("v: q", x.hangs(0), 1);
        due.is("one", x.hangs(1), 1);
        TurfGiving y = Due.of(LAND + "needs 2;");
        due.is("u, v: p", y.hangs(0), 0);
        due.is("one", y.hangs(1), 1);
        TurfGiving z = Due.of(LAND + "swears = 0;");
        due.is("nothing hangs on anybody: the first", z.hangs(0), 0);
        due.is("none", z.hangs(1), 0);
        due.is("no plots", Due.of("witness w 1 1;").hangs(0), 0);
        due.is("no plots", Due.of("witness w 1 1;").hangs(1), 0);
        TurfGiving w = Due.of("person a;person b;plot p 1 1 a;plot q 1 1 a;plot r 1 1 a;witness u 1 9;witness v 1 9;witness w 1 9;"
                + "giving p a b 1 u;giving q a b 1 w;giving r a b 1 w;giving r b a 1 v;");
        // by u's death p, by v's r, by w's q alone, as r is a's all the same
        due.is("alike", w.hangs(0), 0);
        due.is("one", w.hangs(1), 1);
        w.unsay(3, true);
        due.is("w: q, r", w.hangs(0), 2);
        due.is("two", w.hangs(1), 2);
    }

    private static void hangsNobody() {
        due.sentence("HANGS: what 0 the WITNESS, 1 how many PLOTS; -2: nobody is alive; NONE for others.");
        TurfGiving x = new TurfGiving();
        due.is("nobody", x.hangs(0), -2);
        due.is("nobody", x.hangs(1), -2);
        TurfGiving y = Due.of(LAND + "dies = if which < 2 then 100 else 0;");
        y.years(1);
        due.is("w alone", y.hangs(0), 2);
        due.is("none", y.hangs(1), 0);
        TurfGiving z = Due.of(LAND + "dies = 100;");
        z.years(1);
        due.is("all dead", z.hangs(0), -2);
        due.is("all dead", z.hangs(1), -2);
        z.undo();
        due.is("alive again", z.hangs(0), 1);
        for (int what : NO_WHAT) {
            none("what " + what, z.hangs(what));
            none("nobody, what " + what, x.hangs(what));
        }
    }

    // ---- COVER

    private static void coverYears() {
        due.sentence("COVER for n YEARS (0 .. 60)");
        for (int memory = 0; memory <= 62; memory++) {
            TurfGiving x = Due.of("witness w 20 " + memory + ";");
            int least = memory - 1;
            if (least >= 0 && least <= 60) {
                due.is("memory " + memory + " for " + least, x.cover(least, 0), 0);
                due.is("memory " + memory + " for " + least, x.cover(least, -1), 1);
            }
            if (memory <= 60) {
                due.is("memory " + memory + " for " + memory, x.cover(memory, 0), -2);
                due.is("memory " + memory + " for " + memory, x.cover(memory, -1), -2);
            }
        }
        due.sentence("before whom a GIVING now would STAND now and behind each YEAR up to the n-th, nobody dying");
        TurfGiving gap = Due.of("witness w 20 9;swears = if year < 5 then 1 else if year < 6 then 0 else 1;dies = 100;");
        due.is("now", gap.cover(0, 0), 0);
        due.is("for 4", gap.cover(4, 0), 0);
        due.is("for 5", gap.cover(5, 0), -2);
        due.is("for 6", gap.cover(6, 0), -2);
        due.is("for 60", gap.cover(60, 0), -2);
        TurfGiving later = Due.of("witness w 20 9;swears = year;");
        due.is("not now", later.cover(0, 0), -2);
        due.is("not now", later.cover(3, 0), -2);
        later.years(1);
        due.is("now", later.cover(60, 0), 0);
        TurfGiving old = Due.of("witness w 20 9;swears = 30 - age;");
        due.is("till 29 years old", old.cover(9, 0), 0);
        due.is("till 30 years old", old.cover(10, 0), -2);
        old.years(5);
        due.is("from now on", old.cover(4, 0), 0);
        due.is("from now on", old.cover(5, 0), -2);
    }

    private static void coverByFour() {
        String seven = "witness a 1 1;witness b 1 1;witness c 1 1;witness d 1 1;witness e 1 1;witness f 1 1;witness g 1 1;";
        due.sentence("the fewest WITNESSES (0 .. 4), alive now");
        // each swears in one year alone
        String inTurn = seven + "swears = if which < since then 0 else if since < which then 0 else 1;";
        TurfGiving x = Due.of(inTurn);
        for (int n = 0; n <= 3; n++) {
            due.is("for " + n, x.cover(n, -1), n + 1);
            for (int i = 0; i <= 3; i++) {
                due.is("for " + n + " the " + i, x.cover(n, i), i <= n ? i : -1);
            }
        }
        due.sentence("-2: not by four (i NONE or not)");
        for (int i = -1; i <= 3; i++) {
            due.is("five", x.cover(4, i), -2);
            due.is("seven", x.cover(6, i), -2);
            due.is("not at all", x.cover(60, i), -2);
        }
        due.sentence("the fewest WITNESSES (0 .. 4), alive now");
        for (int needs = 1; needs <= 4; needs++) {
            TurfGiving y = Due.of(seven + "swears = 1;needs " + needs + ";");
            due.is("needs " + needs, y.cover(60, -1), needs);
            for (int i = 0; i <= 3; i++) {
                due.is("needs " + needs + " the " + i, y.cover(60, i), i < needs ? i : -1);
            }
            TurfGiving few = Due.of(seven.substring(0, 14 * (needs - 1)) + "swears = 1;needs " + needs + ";");
            due.is("one too few", few.cover(0, -1), -2);
        }
        // more than it needs, as only who is one of four swears
        TurfGiving seen = Due.of(seven + "swears = if seen < 4 then 0 else which;");
        due.is("seen by four", seen.cover(9, -1), 4);
        for (int i = 0; i <= 3; i++) {
            due.is("seen by four", seen.cover(9, i), i);
        }
        due.is("seen by five", Due.of(seven + "swears = if seen < 5 then 0 else 1;").cover(0, -1), -2);
    }

    private static void coverOrder() {
        due.sentence("of alike ones the first by the least WITNESS, then the next one");
        String four = "witness a 1 1;witness b 1 1;witness c 1 1;witness d 1 1;";
        // now a, b swear; behind a year a, c; behind two b, d; behind three c, d: a d or b c
        TurfGiving x = Due.of(four + "swears = if which < 1 then 2 - since else if which < 2 then (since - 1) * (since - 1) * (3 - since)"
                + " else if which < 3 then since * (since - 2) * (since - 2) else since - 1;");
        due.is("two", x.cover(3, -1), 2);
        due.is("a", x.cover(3, 0), 0);
        due.is("d", x.cover(3, 1), 3);
        none("two", x.cover(3, 2));
        // a b c alone would stand for good, one by one; the first is taken
        due.is("the least", Due.of(four + "swears = which;").cover(5, 0), 1);
        TurfGiving z = Due.of(four + "witness e 1 1;witness f 1 1;witness g 1 1;needs 3;swears = which * (which - 1) * (which - 3);");
        // c is below 0, so that e f g alone swear
        due.is("e", z.cover(0, 0), 4);
        due.is("f", z.cover(0, 1), 5);
        due.is("g", z.cover(0, 2), 6);
        String seven = four + "witness e 1 1;witness f 1 1;witness g 1 1;";
        TurfGiving last = Due.of(seven + "swears = which - 5;");
        due.is("g alone", last.cover(60, -1), 1);
        due.is("g alone", last.cover(60, 0), 6);
        TurfGiving besides = Due.of(seven + "swears = if seen < 2 then 0 else which - 5;");
        due.is("g, and one more who sees it", besides.cover(60, -1), 2);
        due.is("a", besides.cover(60, 0), 0);
        due.is("g", besides.cover(60, 1), 6);
        TurfGiving lastFour = Due.of(seven + "needs 4;swears = which - 2;");
        for (int i = 0; i < 4; i++) {
            due.is("d e f g", lastFour.cover(60, i), 3 + i);
        }
        // one that stands beats two that come first
        TurfGiving one = Due.of(four + "swears = if which < 3 then 1 - since * (2 - which) else 1;");
        due.is("fewest first", one.cover(9, -1), 1);
        due.is("c", one.cover(9, 0), 2);
    }

    private static void coverAlive() {
        due.sentence("the fewest WITNESSES (0 .. 4), alive now");
        TurfGiving x = Due.of(LAND + "dies = if which < 1 then 100 else 0;");
        due.is("u", x.cover(8, 0), 0);
        x.years(1);
        due.is("u is dead", x.cover(8, 0), 1);
        due.is("u is dead", x.cover(9, 0), 2);
        due.is("u, v would be two", x.cover(8, -1), 1);
        TurfGiving y = Due.of(LAND + "dies = 100;");
        due.is("nobody dying", y.cover(29, 0), 2);
        y.years(1);
        due.is("all dead", y.cover(0, 0), -2);
        due.is("all dead", y.cover(0, -1), -2);
    }

    private static void coverNone() {
        due.sentence("NONE: no such ones (i 0 .. 3), not so many.");
        TurfGiving x = Due.of(LAND);
        for (int n : NO_YEARS) {
            for (int i = -1; i <= 3; i++) {
                none("n " + n, x.cover(n, i));
            }
        }
        for (int i : new int[] {LEAST, -3, -2, 4, 5, 32, MOST}) {
            none("i " + i, x.cover(0, i));
            none("not by four, i " + i, x.cover(60, i));
        }
        none("not so many", x.cover(0, 1));
        none("not so many", x.cover(0, 3));
        due.is("nobody", new TurfGiving().cover(0, 0), -2);
        due.is("nobody", new TurfGiving().cover(60, -1), -2);
        none("nobody, n", new TurfGiving().cover(61, -1));
        none("nobody, i", new TurfGiving().cover(0, 4));
    }

    // ---- ROUND, WITHIN

    private static final String SEVEN_PLOTS = "person a;plot p 0 0 a;plot q 1 0 a;plot r 2 0 a;plot s 3 0 a;plot t 4 0 a;plot u 5 0 a;plot v 6 0 a;";

    private static void round() {
        due.sentence("ROUND of a set of PLOTS: the order in which all turfs are cut soonest, begun at the first of the order");
        TurfGiving x = Due.of(SEVEN_PLOTS + "asks = across * 10;");
        for (int plot = 0; plot < 7; plot++) {
            due.is("one plot: no walk", x.round(1 << plot, -1), plot * 10);
            due.is("one plot", x.round(1 << plot, 0), plot);
            none("one plot", x.round(1 << plot, 1));
        }
        due.is("all", x.round(127, -1), 210 + 6);
        due.is("the ends", x.round(65, -1), 60 + 6);
        due.sentence("how long (i NONE; 0: no PLOTS)");
        due.is("no plots", x.round(0, -1), 0);
        due.is("no plots", new TurfGiving().round(0, -1), 0);
        due.is("takes no time", Due.of(SEVEN_PLOTS + "walks = 0;asks = 0;").round(127, -1), 0);
        TurfGiving dear = Due.of(SEVEN_PLOTS + "walks = 9999;asks = 9999;");
        due.is("the longest", dear.round(127, -1), 13 * 99);
        TurfGiving year = Due.of(SEVEN_PLOTS + "walks = year;asks = year * 2;");
        year.years(3);
        due.is("as of now", year.round(3, -1), 3 + 12);
        // by way of q it would be 2, but a walk goes straight
        TurfGiving straight = Due.of("person a;plot p 0 0 a;plot q 1 0 a;plot r 2 0 a;walks = far * far;asks = 0;");
        due.is("straight", straight.round(5, -1), 4);
    }

    private static void roundOrder() {
        due.sentence("of alike ones the first by the first PLOT, then the next one");
        TurfGiving x = Due.of(SEVEN_PLOTS + "walks = 5;");
        for (int set = 1; set < 128; set++) {
            int at = 0;
            for (int plot = 0; plot < 7; plot++) {
                if ((set >> plot & 1) != 0) {
                    due.is("set " + set + " the " + at, x.round(set, at), plot);
                    at++;
                }
            }
        }
        // a square: each of the eight ways round is alike
        TurfGiving square = Due.of("person a;plot p 5 5 a;plot q 5 6 a;plot r 6 5 a;plot s 6 6 a;");
        int[] order = {0, 1, 3, 2};
        for (int i = 0; i < 4; i++) {
            due.is("square " + i, square.round(15, i), order[i]);
        }
        // walks cost where they go: the dearest goal is begun at, the others are alike
        TurfGiving goals = Due.of("person a;plot p 1 0 a;plot q 9 0 a;plot r 2 0 a;plot s 9 0 a;walks = across;");
        int[] second = {1, 0, 2, 3};
        for (int i = 0; i < 4; i++) {
            due.is("goals " + i, goals.round(15, i), second[i]);
        }
        due.is("goals", goals.round(15, -1), 4 + 1 + 2 + 9);
    }

    private static void roundNone() {
        due.sentence("NONE: no such ones, not so many.");
        TurfGiving x = Due.of(LAND);
        for (int set : new int[] {4, 5, 7, 8, 64, 127, 128, 1 << 30, -1, -2, LEAST, LEAST + 1, MOST}) {
            for (int i = -1; i <= 2; i++) {
                none("set " + set, x.round(set, i));
            }
        }
        for (int i : new int[] {LEAST, -3, -2, 2, 3, 7, MOST}) {
            none("i " + i, x.round(3, i));
        }
        none("no plots, i 0", x.round(0, 0));
        none("no plots, i -2", x.round(0, -2));
        TurfGiving seven = Due.of(SEVEN_PLOTS);
        due.is("the seventh", seven.round(127, 6), 6);
        none("an eighth", seven.round(127, 7));
        none("an eighth", seven.round(128, 0));
        none("new object", new TurfGiving().round(1, -1));
        none("new object", new TurfGiving().round(0, 0));
    }

    private static void within() {
        due.sentence("WITHIN a time t (0 .. 999): the most PLOTS, a PLOT first, whose turfs can be cut in it.");
        TurfGiving x = Due.of(SEVEN_PLOTS + "asks = 10;");
        for (int t = 0; t <= 90; t++) {
            // 10 for the first, 11 for each one more
            due.is("from the end, " + t, x.within(0, t), t < 10 ? 0 : Math.min(7, 1 + (t - 10) / 11));
        }
        due.is("all, to and fro", x.within(3, 70 + 8), 6);
        due.is("all, to and fro", x.within(3, 70 + 9), 7);
        due.sentence("WITHIN (0: not even that one)");
        due.is("not that one", x.within(6, 9), 0);
        due.is("that one", x.within(6, 10), 1);
        TurfGiving cheap = Due.of(SEVEN_PLOTS + "asks = 9 - across * 9;walks = 0;");
        due.is("not even that one, though others could", cheap.within(0, 8), 0);
        due.is("all others too", cheap.within(0, 9), 7);
        due.is("all but the first told", cheap.within(1, 0), 6);
        TurfGiving dear = Due.of(SEVEN_PLOTS + "asks = 99;walks = 99;");
        due.is("999", dear.within(0, 999), 5);
        due.is("990", dear.within(0, 990), 5);
        due.is("891", dear.within(0, 891), 5);
        due.is("890", dear.within(0, 890), 4);
        due.is("98", dear.within(0, 98), 0);
        due.is("99", dear.within(0, 99), 1);
    }

    private static void withinNone() {
        due.sentence("NONE: no such ones.");
        TurfGiving x = Due.of(LAND);
        for (int plot : NO_PERSON_OR_PLOT) {
            none("plot " + plot, x.within(plot, 5));
        }
        for (int t : new int[] {LEAST, -2, -1, 1000, 1001, MOST}) {
            none("t " + t, x.within(0, t));
        }
        due.is("t 0", x.within(0, 0), 0);
        due.is("t 999", x.within(0, 999), 2);
        none("new object", new TurfGiving().within(0, 0));
    }

    // ---- PEOPLE and PLOTS

    private static void has() {
        due.sentence("HAS: how many PLOTS are a PERSON's now; in n YEARS (0 .. 60).");
        TurfGiving edge = Due.of(ONE + "60 - year;");
        due.is("b in 59", edge.has(1, 59), 1);
        due.is("b in 60", edge.has(1, 60), 0);
        edge.years(1);
        due.is("from now on", edge.has(1, 58), 1);
        due.is("from now on", edge.has(1, 59), 0);
        due.sentence("HAS: in n YEARS (0: now); NONE: no such ones.");
        TurfGiving x = Due.of(LAND);
        due.is("a now", x.has(0, 0), 1);
        due.is("a in 1", x.has(0, 1), 0);
        due.is("b in 1", x.has(1, 1), 2);
        due.is("a in 16", x.has(0, 16), 0);
        due.is("a in 17", x.has(0, 17), 1);
        due.is("a in 60", x.has(0, 60), 1);
        for (int person : NO_PERSON_OR_PLOT) {
            none("person " + person, x.has(person, 0));
        }
        for (int n : NO_YEARS) {
            none("n " + n, x.has(0, n));
        }
        none("new object", new TurfGiving().has(0, 0));
        due.is("no plots", Due.of("person a;").has(0, 60), 0);
        due.is("the sixth", Due.of("person a;person b;person c;person d;person e;person f;plot p 1 1 f;").has(5, 9), 1);
        due.is("all seven", Due.of(SEVEN_PLOTS).has(0, 0), 7);
    }

    private static void rich() {
        due.sentence("RICH in n YEARS: the PERSON with most PLOTS, of alike ones the first; how many.");
        TurfGiving x = Due.of(LAND);
        due.is("alike", x.rich(0, 0), 0);
        due.is("one", x.rich(0, 1), 1);
        due.is("b in 1", x.rich(1, 0), 1);
        due.is("two", x.rich(1, 1), 2);
        due.is("b in 16", x.rich(16, 0), 1);
        due.is("alike in 17", x.rich(17, 0), 0);
        due.is("alike in 60", x.rich(60, 0), 0);
        due.is("no plots: the first", Due.of("person a;person b;").rich(60, 0), 0);
        due.is("no plots", Due.of("person a;person b;").rich(60, 1), 0);
        due.is("the sixth", Due.of("person a;person b;person c;person d;person e;person f;plot p 1 1 f;").rich(0, 0), 5);
        due.sentence("RICH (n 0 .. 60): what 0 who, 1 how many; -2: no PEOPLE; NONE: no such ones.");
        TurfGiving none = Due.of("witness w 1 1;");
        for (int n : new int[] {0, 1, 59, 60}) {
            due.is("no people", none.rich(n, 0), -2);
            due.is("no people", none.rich(n, 1), -2);
        }
        for (int n : NO_YEARS) {
            none("n " + n, x.rich(n, 0));
            none("n " + n, x.rich(n, 1));
            none("no people, n " + n, none.rich(n, 0));
        }
        for (int what : NO_WHAT) {
            none("what " + what, x.rich(0, what));
            none("no people, what " + what, none.rich(0, what));
        }
    }

    private static void chain() {
        due.sentence("CHAIN: how many (i NONE), else the i-th PERSON; NONE: no such PLOT, not so many, i below NONE.");
        TurfGiving x = Due.of(LAND);
        due.is("two", x.chain(0, -1), 2);
        due.is("a", x.chain(0, 0), 0);
        due.is("b", x.chain(0, 1), 1);
        for (int i : new int[] {LEAST, -3, -2, 2, 3, 20, 32, MOST}) {
            none("i " + i, x.chain(0, i));
        }
        for (int plot : NO_PERSON_OR_PLOT) {
            none("plot " + plot, x.chain(plot, -1));
            none("plot " + plot, x.chain(plot, 0));
        }
        none("new object", new TurfGiving().chain(0, -1));
        due.sentence("CHAIN of a PLOT: those whose it was, one behind the other, from the first one on by GIVINGS that COUNT.");
        TurfGiving y = Due.of("person a;person b;plot p 1 1 b;");
        due.is("the first one alone", y.chain(0, -1), 1);
        due.is("the first one", y.chain(0, 0), 1);
        none("no second", y.chain(0, 1));
        // all of the twenty count
        TurfGiving z = Due.of("person a;person b;plot p 1 1 a;witness w 1 99;" + "giving p a b 1 w;giving p b a 1 w;".repeat(6));
        for (int number = 12; number < 20; number++) {
            due.is("give", z.give(0, number & 1, 1 - (number & 1), 1), number);
        }
        due.is("twenty and the first", z.chain(0, -1), 21);
        for (int i = 0; i <= 20; i++) {
            due.is("the " + i, z.chain(0, i), i & 1);
        }
        none("no more", z.chain(0, 21));
        z.unsay(0, true);
        due.is("the first fails: from the third on", z.chain(0, -1), 19);
    }

    private static void idle() {
        due.sentence("IDLE: GIVINGS of a PLOT that STAND and do not COUNT.");
        TurfGiving x = Due.of(LAND);
        due.is("all count", x.idle(0), 0);
        x.give(0, 0, 1, 1);
        due.is("not his", x.idle(0), 4);
        due.is("of that plot", x.idle(1), 0);
        x.give(0, 0, 1, 0);
        due.is("stands not", x.idle(0), 4);
        x.unsay(2, true);
        due.is("unsaid", x.idle(0), 0);
        x.unsay(0, true);
        due.is("unsaid", x.idle(0), 0);
        x.unsay(2, false);
        due.is("counts", x.idle(0), 0);
        TurfGiving first = Due.of("person a;person b;plot p 1 1 a;plot q 1 1 a;witness w 1 9;giving q b a 1 w;giving p b a 1 w;giving q a b 1 w;");
        due.is("the first one told", first.idle(1), 1);
        due.is("the second one told", first.idle(0), 2);
        for (int number = 4; number < 20; number++) {
            x.give(1, 1, 0, 4);
        }
        due.is("all by hand", x.idle(1), 0xffff0);
        due.sentence("IDLE (bits); NONE: no such PLOT.");
        for (int plot : NO_PERSON_OR_PLOT) {
            none("plot " + plot, x.idle(plot));
        }
        none("new object", new TurfGiving().idle(0));
    }

    private static void eldest() {
        due.sentence("ELDEST: the WITNESS alive that is oldest, of alike ones the first; how old.");
        due.is("w", Due.of(LAND).eldest(0), 2);
        due.is("70", Due.of(LAND).eldest(1), 70);
        TurfGiving alike = Due.of("witness u 5 1;witness v 70 1;witness w 70 1;");
        due.is("alike", alike.eldest(0), 1);
        due.is("0 years old", Due.of("witness u 0 1;witness v 0 1;").eldest(0), 0);
        due.is("0 years old", Due.of("witness u 0 1;witness v 0 1;").eldest(1), 0);
        TurfGiving dying = Due.of(LAND + "dies = if which < 2 then 0 else 100;");
        dying.years(1);
        due.is("w is dead", dying.eldest(0), 0);
        due.is("51", dying.eldest(1), 51);
        due.sentence("ELDEST: what 0 which, 1 how old; -2: nobody is alive; NONE for others.");
        TurfGiving none = new TurfGiving();
        due.is("nobody", none.eldest(0), -2);
        due.is("nobody", none.eldest(1), -2);
        TurfGiving dead = Due.of(LAND + "dies = 100;");
        dead.years(1);
        due.is("all dead", dead.eldest(0), -2);
        due.is("all dead", dead.eldest(1), -2);
        for (int what : NO_WHAT) {
            none("what " + what, alike.eldest(what));
            none("nobody, what " + what, none.eldest(what));
        }
    }

    private static void lapse() {
        due.sentence("LAPSE in n YEARS: how many GIVINGS that STAND now do not then.");
        TurfGiving x = Due.of(LAND);
        due.is("now", x.lapse(0), 0);
        due.is("1", x.lapse(1), 1);
        due.is("16", x.lapse(16), 1);
        due.is("17", x.lapse(17), 2);
        due.is("60", x.lapse(60), 2);
        x.unsay(0, true);
        due.is("what stands not now", x.lapse(17), 1);
        due.is("those of later", Due.of(LAND + "swears = year;").lapse(60), 0);
        due.is("there again", Due.of(LAND + "swears = if year < 1 then 1 else if year < 3 then 0 else 1;").lapse(2), 2);
        due.is("there again", Due.of(LAND + "swears = if year < 1 then 1 else if year < 3 then 0 else 1;").lapse(3), 0);
        due.is("by death", Due.of(LAND + "swears = 1;dies = if which < 1 then 0 else 100;").lapse(1), 1);
        due.sentence("LAPSE (n 0 .. 60); NONE: no such n.");
        for (int n : NO_YEARS) {
            none("n " + n, x.lapse(n));
            none("new object, n " + n, new TurfGiving().lapse(n));
        }
        due.is("new object", new TurfGiving().lapse(0), 0);
        due.is("new object", new TurfGiving().lapse(60), 0);
    }

    private static void passes() {
        due.sentence("PASSES: behind how many YEARS (1 .. 200), as they go, a PLOT is another one's than now.");
        for (int years = 1; years <= 200; years++) {
            if (years < 5 || years % 50 < 2 || years > 195) {
                due.is("till year " + years, Due.of(ONE + years + " - year;").passes(0), years);
                due.is("from year " + years + " on", Due.of(ONE + "year - " + (years - 1) + ";").passes(0), years);
            }
        }
        due.sentence("PASSES; -2: not; NONE: no such PLOT.");
        due.is("201", Due.of(ONE + "201 - year;").passes(0), -2);
        due.is("from year 201 on", Due.of(ONE + "year - 200;").passes(0), -2);
        due.is("for good", Due.of(ONE + "1;").passes(0), -2);
        due.is("never given", Due.of("person a;plot p 1 1 a;").passes(0), -2);
        due.is("there and back: the first time", Due.of(ONE + "if year < 2 then 1 else if year < 3 then 0 else 1;").passes(0), 2);
        due.is("as they go: by death", Due.of(ONE + "1;dies = if year < 6 then 0 else 100;").passes(0), 7);
        TurfGiving x = Due.of(ONE + "203 - year;");
        due.is("203", x.passes(0), -2);
        x.years(3);
        due.is("from now on", x.passes(0), 200);
        for (int plot : new int[] {LEAST, -2, -1, 1, 2, 7, 32, MOST}) {
            none("plot " + plot, x.passes(plot));
        }
        none("new object", new TurfGiving().passes(0));
    }

    private static void weakest() {
        due.sentence("WEAKEST: of GIVINGS that COUNT the one to which fewest SWEAR, of alike ones the first; how many.");
        TurfGiving x = Due.of(LAND);
        due.is("q's", x.weakest(0), 1);
        due.is("one", x.weakest(1), 1);
        x.give(0, 1, 0, 1);
        due.is("alike", x.weakest(0), 1);
        x.unsay(1, true);
        due.is("by hand", x.weakest(0), 2);
        x.unsay(2, true);
        due.is("p's", x.weakest(0), 0);
        due.is("two", x.weakest(1), 2);
        x.give(0, 0, 1, 4);
        due.is("idle is not looked at", x.weakest(0), 0);
        due.sentence("WEAKEST: what 0 which, 1 how many SWEAR; -2: none COUNTS; NONE for others.");
        x.unsay(0, true);
        x.unsay(3, true);
        due.is("none counts", x.weakest(0), -2);
        due.is("none counts", x.weakest(1), -2);
        due.is("new object", new TurfGiving().weakest(0), -2);
        due.is("new object", new TurfGiving().weakest(1), -2);
        for (int what : NO_WHAT) {
            none("what " + what, x.weakest(what));
            none("new object, what " + what, new TurfGiving().weakest(what));
            none("some count, what " + what, Due.of(LAND).weakest(what));
        }
        TurfGiving full = Due.of(LAND);
        for (int number = 2; number < 19; number++) {
            full.give(0, 0, 1, 7);
        }
        full.unsay(0, true);
        full.unsay(1, true);
        for (int number = 2; number < 19; number++) {
            full.unsay(number, true);
        }
        due.is("give", full.give(0, 0, 1, 7), 19);
        due.is("the 20th", full.weakest(0), 19);
        due.is("three", full.weakest(1), 3);
    }

    // ---- IN n YEARS

    private static void ownerIn() {
        due.sentence("IN n YEARS: whose a PLOT is; how old a WITNESS is, whether alive; how many SWEAR to a GIVING.");
        TurfGiving ahead = Due.of(LAND + "dies = age / 3;seed 31;");
        TurfGiving there = Due.of(LAND + "dies = age / 3;seed 31;");
        for (int n = 0; n <= 60; n++) {
            // what would be in n YEARS is what is once they have gone by, one by one
            due.is("whose in " + n, ahead.ownerIn(0, n), there.plot(0, 3));
            due.is("age in " + n, ahead.then(0, n, 0), there.witness(0, 0));
            due.is("alive in " + n, ahead.then(1, n, 1), there.witness(1, 2));
            due.is("swear in " + n, ahead.swearIn(0, n), Integer.bitCount(there.giving(0, 5)));
            there.years(1);
        }
        due.sentence("IN n YEARS (0 .. 60) whose a PLOT is; NONE: no such ones.");
        TurfGiving x = Due.of(LAND);
        int[][] rows = {{0, 0, 1}, {0, 16, 1}, {0, 17, 0}, {0, 60, 0}, {1, 0, 0}, {1, 1, 1}, {1, 60, 1}};
        for (int[] row : rows) {
            due.is("plot " + row[0] + " in " + row[1], x.ownerIn(row[0], row[1]), row[2]);
        }
        for (int plot : NO_PERSON_OR_PLOT) {
            none("plot " + plot, x.ownerIn(plot, 0));
        }
        for (int n : NO_YEARS) {
            none("n " + n, x.ownerIn(0, n));
        }
        none("new object", new TurfGiving().ownerIn(0, 0));
        TurfGiving edge = Due.of(ONE + "60 - year;");
        due.is("59", edge.ownerIn(0, 59), 1);
        due.is("60", edge.ownerIn(0, 60), 0);
    }

    private static void then() {
        due.sentence("IN n YEARS of a WITNESS: what 0 its age, 1: 1 alive, else 0; NONE: no such ones.");
        TurfGiving x = Due.of(LAND + "dies = if age < 55 then 0 else 100;");
        int[][] rows = {{0, 0, 50, 1}, {0, 5, 55, 1}, {0, 6, 55, 0}, {0, 60, 55, 0}, {1, 45, 55, 1}, {1, 46, 55, 0}, {2, 0, 70, 1}, {2, 1, 70, 0}};
        for (int[] row : rows) {
            due.is("age of " + row[0] + " in " + row[1], x.then(row[0], row[1], 0), row[2]);
            due.is("alive " + row[0] + " in " + row[1], x.then(row[0], row[1], 1), row[3]);
        }
        for (int witness : NO_WITNESS) {
            none("witness " + witness, x.then(witness, 0, 0));
            none("witness " + witness, x.then(witness, 0, 1));
        }
        for (int n : NO_YEARS) {
            none("n " + n, x.then(0, n, 0));
            none("n " + n, x.then(0, n, 1));
        }
        for (int what : NO_WHAT) {
            none("what " + what, x.then(0, 0, what));
        }
        none("new object", new TurfGiving().then(0, 0, 0));
        x.years(1);
        due.is("the dead, as it died", x.then(2, 60, 0), 70);
        due.is("the dead", x.then(2, 0, 1), 0);
    }

    private static void swearIn() {
        due.sentence("IN n YEARS how many SWEAR to a GIVING; NONE: no such ones.");
        TurfGiving x = Due.of(LAND);
        int[][] rows = {{0, 0, 2}, {0, 5, 2}, {0, 6, 1}, {0, 16, 1}, {0, 17, 0}, {0, 60, 0}, {1, 0, 1}, {1, 1, 0}};
        for (int[] row : rows) {
            due.is("giving " + row[0] + " in " + row[1], x.swearIn(row[0], row[1]), row[2]);
        }
        for (int giving : NO_GIVING) {
            none("giving " + giving, x.swearIn(giving, 0));
        }
        for (int n : NO_YEARS) {
            none("n " + n, x.swearIn(0, n));
        }
        none("new object", new TurfGiving().swearIn(0, 0));
        due.is("60", Due.of(ONE + "61 - year;").swearIn(0, 60), 1);
        due.is("60", Due.of(ONE + "60 - year;").swearIn(0, 60), 0);
        due.is("by death", Due.of(ONE + "1;dies = 100;").swearIn(0, 1), 0);
    }

    private static void yearBySeeds() {
        due.sentence("YEAR by s SEEDS (1 .. 20) from the text's SEED on: in how many of them a PLOT is a PERSON's in n YEARS (0 .. 60).");
        // LOT 100 for WITNESS 0 in year 0 by SEEDS 7, 8: 62, 47; by SEEDS 9999 .. 10003: 56 8 13 84 88
        TurfGiving x = Due.of(ONE + "1;seed 7;dies = 62;");
        due.is("7", x.year(0, 1, 1, 1), 1);
        due.is("7, 8", x.year(0, 1, 1, 2), 1);
        due.is("7, 8", x.year(0, 0, 1, 2), 1);
        TurfGiving y = Due.of(ONE + "1;seed 9999;dies = 57;");
        int[] alive = {0, 0, 0, 1, 2};
        for (int s = 1; s <= 5; s++) {
            due.is("beyond 9999, " + s, y.year(0, 1, 1, s), alive[s - 1]);
            due.is("beyond 9999, " + s, y.year(0, 0, 1, s), s - alive[s - 1]);
        }
        for (int s = 1; s <= 20; s++) {
            due.is("in 0 years by " + s, y.year(0, 1, 0, s), s);
            due.is("in 0 years by " + s, y.year(0, 0, 0, s), 0);
            due.is("in 60 years by " + s, y.year(0, 0, 60, s), s);
        }
        due.sentence("YEAR; NONE: no such ones.");
        for (int s : new int[] {LEAST, -1, 0, 21, 22, 100, MOST}) {
            none("s " + s, y.year(0, 0, 0, s));
        }
        for (int n : NO_YEARS) {
            none("n " + n, y.year(0, 0, n, 1));
        }
        for (int person : NO_PERSON_OR_PLOT) {
            none("person " + person, y.year(0, person, 0, 1));
        }
        for (int plot : new int[] {LEAST, -2, -1, 1, 2, 7, 32, MOST}) {
            none("plot " + plot, y.year(plot, 0, 0, 1));
        }
        none("new object", new TurfGiving().year(0, 0, 0, 1));
    }

    private static final String FULL = "person a;person b;person c;person d;person e;person f;plot g 0 0 a;plot h 1 0 b;plot i 2 0 c;plot j 3 0 d;"
            + "plot k 4 0 e;plot l 5 0 f;plot m 9 9 f;witness n 1 99;witness o 2 99;witness p 3 99;witness q 4 99;witness r 5 99;witness s 6 99;"
            + "witness t 7 99;giving g a b 0 t;giving h b c 0 t;giving i c d 0 t;giving j d e 0 t;giving k e f 0 t;giving l f a 0 t;"
            + "giving m f a 0 s;" + "giving m a b 0 s t;giving m b c 0 n o p q r s t;giving m c f 0 n;giving m f e 0 n o;giving m e f 0 t;";

    /** As many of each sort as can be, and the last of each looked at. */
    private static void fullLand() {
        due.sentence("PLOTS, 7 at most");
        TurfGiving x = Due.of(FULL);
        for (int number = 12; number < 20; number++) {
            due.is("give", x.give(6, number % 2 == 0 ? 5 : 0, number % 2 == 0 ? 0 : 5, 64), number);
        }
        int[] counts = {6, 7, 7, 20, 0, 127, 0xfffff, 0xfffff, 0, 0, 8, 0, 0, 1, 6, 6 + 1 + 2 + 7 + 1 + 2 + 1 + 8};
        for (int what = 0; what < counts.length; what++) {
            due.is("count " + what, x.count(what), counts[what]);
        }
        due.is("chain", x.chain(6, -1), 15);
        due.is("counting", x.plot(6, 4), 14);
        // without t: g .. l go back to their first; m is given from f to e by the first five, and stays there
        due.is("hangs on t", x.hangs(0), 6);
        due.is("seven plots", x.hangs(1), 7);
        due.is("rich", x.rich(60, 0), 5);
        due.is("two", x.rich(60, 1), 2);
        due.is("has", x.has(5, 60), 2);
        due.is("weakest", x.weakest(0), 0);
        due.is("in 60 years", x.ownerIn(6, 60), 5);
        due.is("swear in 60 years", x.swearIn(8, 60), 7);
        due.is("back to the first", x.passes(0), 99);
        due.is("the first one's all the time", x.passes(6), -2);
        due.is("last", x.lasts(19), 99);
        due.is("by seeds", x.year(6, 5, 60, 20), 20);
        due.is("eldest", x.eldest(0), 6);
        due.is("book", x.book(), 0);
        due.is("the whole round", x.round(127, -1), 7 + 5 + 13);
        due.is("the far one at last", x.round(127, 6), 6);
        due.is("within", x.within(0, 25), 7);
        due.is("within", x.within(0, 24), 6);
        due.is("lapse", x.lapse(60), 0);
        for (int giving = 0; giving < 20; giving++) {
            x.unsay(giving, true);
        }
        due.is("all unsaid", x.count(8), 0xfffff);
        due.is("none stands", x.count(6), 0);
        due.is("all as at first", x.count(14), 0);
        due.is("things done", x.count(10), 28);
    }

    private static TurfGiving livedIn() {
        TurfGiving x = Due.of(LAND + "dies = age / 4;seed 5;");
        x.unsay(1, true);
        x.hold(2);
        x.years(1);
        x.tell(1, true);
        return x;
    }

    private static void nothingHappens() {
        due.sentence("What would be (nothing happens).");
        TurfGiving x = livedIn();
        x.lasts(0);
        x.book();
        x.hangs(0);
        x.cover(60, 0);
        x.round(3, 1);
        x.has(0, 60);
        x.within(0, 999);
        x.rich(60, 0);
        x.chain(0, -1);
        x.idle(0);
        x.eldest(0);
        x.lapse(60);
        x.passes(0);
        x.weakest(0);
        x.ownerIn(0, 60);
        x.then(0, 60, 0);
        x.swearIn(0, 60);
        x.year(0, 0, 60, 20);
        due.is("behind all", Look.at(x), Look.at(livedIn()));
    }
}
