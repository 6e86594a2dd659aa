import java.util.function.Consumer;

/** The edges of LAWS and of what is now, sentence by sentence: the second part of the Terms, promises 6 to 12, 17, 18, 39. */
public final class NowEdgeTest {
    private static final Due due = new Due();
    private static final int LEAST = Integer.MIN_VALUE;
    private static final int MOST = Integer.MAX_VALUE;
    private static final String[] VARS = {"age", "memory", "since", "year", "which", "seen", "far", "across", "down"};
    /** Two people, two plots, three witnesses, two givings. */
    private static final String LAND = "person a;person b;plot p 1 2 a;plot q 3 5 b;witness u 50 20;witness v 10 9;"
            + "witness w 70 30;giving p a b 3 u v;giving q b a 8 v;";

    public static void main(String[] args) {
        firstIfThatHolds();
        intsThatWrap();
        roundedTowardsZero();
        partsAndUnits();
        dividedByZero();
        varsNotTold();
        swearsMoreThanZero();
        aliveAndBeforeIt();
        held();
        walksFar();
        lots();
        stands();
        whose();
        aYear();
        oldest();
        byHand();
        plot();
        witness();
        giving();
        giveRefused();
        giveNoSuchOnes();
        giveOfTheDead();
        unsay();
        years();
        undo();
        walkAndAsks();
        count();
        due.end();
    }

    private static void none(String what, int got) {
        due.is(what, got, -1);
    }

    /** An E that is a number, of INTS of four digits. */
    private static String ofInts(int number) {
        if (number == LEAST) {
            return "(0 - " + ofInts(MOST) + " - 1)";
        }
        if (number < 0) {
            return "(0 - " + ofInts(-number) + ")";
        }
        return "((" + number / 100000000 + " * (9999 + 1) + " + number / 10000 % 10000 + ") * (9999 + 1) + " + number % 10000 + ")";
    }

    private static int asks(String law) {
        return Due.of("person a;plot p 7 3 a;asks = " + law + ";").asks(0);
    }

    private static void reckons(String sum, int number) {
        String other = ofInts(number);
        int answer = asks("if " + sum + " < " + other + " then 1 else if " + other + " < " + sum + " then 2 else 3");
        due.is(sum + " (1 below, 2 above, 3 is) " + number, answer, 3);
    }

    // ---- LAWS

    private static void firstIfThatHolds() {
        due.sentence("LAWS: the E of the first if that holds (one less than the other), else the last one");
        due.is("1 < 2", asks("if 1 < 2 then 5 else 6"), 5);
        due.is("2 < 2", asks("if 2 < 2 then 5 else 6"), 6);
        due.is("3 < 2", asks("if 3 < 2 then 5 else 6"), 6);
        due.is("-1 < 0", asks("if 0 - 1 < 0 then 5 else 6"), 5);
        due.is("least < most", asks("if " + ofInts(LEAST) + " < " + ofInts(MOST) + " then 5 else 6"), 5);
        due.is("most < least", asks("if " + ofInts(MOST) + " < " + ofInts(LEAST) + " then 5 else 6"), 6);
        for (int holds = 0; holds <= 4; holds++) {
            for (int alsoHolds = holds; alsoHolds <= 4; alsoHolds++) {
                StringBuilder law = new StringBuilder();
                for (int i = 0; i < 4; i++) {
                    law.append(i == holds || i == alsoHolds ? "if 1 < 2 then " : "if 2 < 2 then ").append(10 + i).append(" else ");
                }
                due.is("first of " + holds + ", " + alsoHolds, asks(law + "14"), 10 + holds);
            }
        }
    }

    private static void intsThatWrap() {
        due.sentence("ints of 32 bits that wrap");
        reckons(ofInts(MOST) + " + 1", LEAST);
        reckons(ofInts(LEAST) + " - 1", MOST);
        reckons(ofInts(MOST) + " * 2", -2);
        reckons(ofInts(MOST) + " * " + ofInts(MOST), 1);
        reckons(ofInts(LEAST) + " * (0 - 1)", LEAST);
        reckons(ofInts(LEAST) + " / (0 - 1)", LEAST);
        reckons("0 - " + ofInts(LEAST), LEAST);
        reckons("9999 * 9999 * 9999", (int) (9999L * 9999L * 9999L));
        reckons("9999 * 9999 * 9999 * 9999", (int) (99980001L * 99980001L));
        reckons(ofInts(1 << 30) + " + " + ofInts(1 << 30), LEAST);
        reckons(ofInts(-7), -7);
        reckons(ofInts(2000000000), 2000000000);
        due.sentence("a 7th ( within one another (at it)");
        // six brackets within one another, each of which leaves two sums open
        String deep = "(1 + 2 * ".repeat(6) + "3" + ")".repeat(6);
        reckons(deep, 255);
        reckons("1 + 2 * " + deep, 511);
        reckons("3000 - 2 * " + deep.replace("1 +", "1 -"), 3000 - 2 * 171);
        due.is("on both sides", asks("if 1 + 2 * " + deep + " < 1 + 2 * " + deep + " then 1 else 2"), 2);
        due.is("on both sides", asks("if 0 + 2 * " + deep + " < 1 + 2 * " + deep + " then 1 else 2"), 1);
    }

    private static void roundedTowardsZero() {
        due.sentence("/ rounded towards 0");
        reckons("7 / 2", 3);
        reckons("(0 - 7) / 2", -3);
        reckons("7 / (0 - 2)", -3);
        reckons("(0 - 7) / (0 - 2)", 3);
        reckons("1 / 2", 0);
        reckons("(0 - 1) / 2", 0);
        reckons("0 / 5", 0);
        reckons("6 / 2", 3);
        reckons(ofInts(LEAST) + " / 2", LEAST / 2);
        reckons(ofInts(LEAST) + " / " + ofInts(MOST), -1);
        reckons("7 / 2 * 2", 6);
        reckons("2 * 7 / 2", 7);
    }

    private static void partsAndUnits() {
        due.sentence("E: PART {('+' | '-') PART}. PART: UNIT {('*' | '/') UNIT}.");
        reckons("9 - 4 - 3", 2);
        reckons("9 - 4 + 3", 8);
        reckons("9 + 4 - 3 - 2 + 1", 9);
        reckons("90 / 9 / 5", 2);
        reckons("90 / 9 * 5", 50);
        reckons("9 * 4 / 5 * 2", 14);
        reckons("2 + 3 * 4", 14);
        reckons("2 * 3 + 4", 10);
        reckons("20 - 3 * 4 - 1", 7);
        reckons("20 - 12 / 4 * 2 + 1", 15);
        reckons("(20 - 12) / 4 * (2 + 1)", 6);
        reckons("20 - (12 - (4 - 1))", 11);
        reckons("1" + "+1".repeat(59), 60);
        reckons("1" + "*1".repeat(59), 1);
    }

    private static void dividedByZero() {
        due.sentence("a LAW in which something that is looked at is divided by 0 is 0");
        String[] zero = {"1 / 0", "0 / 0", "1 / 0 + 5", "5 + 1 / 0", "5 - 1 / 0", "0 * (1 / 0)", "1 / 0 * 0", "9 / (1 / 2)", "9 / (3 - down)",
            "5 / (0 / 0)", "if 1 / 0 < 2 then 5 else 6", "if 2 < 1 / 0 then 5 else 6", "if 1 < 2 then 1 / 0 else 6",
            "if 2 < 1 then 5 else 1 / 0", "if 2 < 1 then 5 else if 1 / 0 < 1 then 6 else 7",
            "if 2 < 1 then 5 else if 1 < 2 then 1 / 0 else 7", "9 / far", "9 / age / 0", "9 / (7 - across)"};
        for (String law : zero) {
            due.is(law, asks(law), 0);
        }
        due.sentence("something that is looked at");
        due.is("last one", asks("if 1 < 2 then 5 else 1 / 0"), 5);
        due.is("E of an if that does not hold", asks("if 2 < 1 then 1 / 0 else 6"), 6);
        due.is("a later if", asks("if 1 < 2 then 5 else if 1 / 0 < 1 then 6 else 7"), 5);
        due.is("E of a later if", asks("if 1 < 2 then 5 else if 1 < 2 then 1 / 0 else 7"), 5);
        due.is("0 divided", asks("5 + 0 / 7"), 5);
        String one = "person a;person b;plot p 7 3 a;plot q 1 1 a;witness w 50 9;giving p a b 1 w;";
        due.is("swears", Due.of(one + "swears = 9 + 1 / (50 - age);").count(6), 0);
        due.is("swears", Due.of(one + "swears = 9 + 1 / (51 - age);").count(6), 1);
        due.is("dies", Due.of(one + "dies = 9 + 1 / (50 - age);").witness(0, 4), 0);
        due.is("dies", Due.of(one + "dies = 9 + 1 / (51 - age);").witness(0, 4), 10);
        due.is("walks", Due.of(one + "walks = 9 + 1 / (1 - across);").walk(0, 1), 0);
        due.is("walks", Due.of(one + "walks = 9 + 1 / (8 - across);").walk(1, 0), 10);
    }

    /** Age 40, memory 21, number 2, since 8, seen 3, year 5; from 1 1 to 4 8. */
    private static TurfGiving withLaw(String law) {
        TurfGiving x = Due.of("person a;person b;plot p 1 1 a;plot q 4 8 b;witness u 1 1;witness v 2 2;witness w 35 21;"
                + "giving p a b 3 v w u;" + law + ";");
        x.years(5);
        return x;
    }

    private static void varsNotTold() {
        int[] ofSwears = {40, 21, 8, 5, 2, 3, 0, 0, 0};
        int[] ofDies = {40, 21, 0, 5, 2, 0, 0, 0, 0};
        int[] ofWalks = {0, 0, 0, 5, 0, 0, 10, 4, 8};
        int[] ofAsks = {0, 0, 0, 5, 0, 0, 0, 4, 8};
        due.sentence("a VAR not told for a LAW is 0 in it; year for all");
        for (int i = 0; i < VARS.length; i++) {
            String is = "if " + VARS[i] + " < " + ofSwears[i] + " then 0 else if " + ofSwears[i] + " < " + VARS[i] + " then 0 else 1";
            due.is("swears by " + VARS[i], (withLaw("swears = " + is).giving(0, 5) >> 2) & 1, 1);
            // to die of 100 is sure, and this one must not die in the years ahead
            due.is("dies by " + VARS[i], withLaw("dies = if 4 < year then " + VARS[i] + " else 0").witness(2, 4), ofDies[i]);
            due.is("walks by " + VARS[i], withLaw("walks = " + VARS[i]).walk(0, 1), ofWalks[i]);
            due.is("asks by " + VARS[i], withLaw("asks = " + VARS[i]).asks(1), ofAsks[i]);
        }
        due.sentence("seen: before how many WITNESSES it was (for SWEARS)");
        TurfGiving x = Due.of(LAND + "swears = if seen < 2 then 1 else 0;giving p a b 1;dies = 0;");
        due.is("two saw it", x.giving(0, 5), 0);
        due.is("one saw it", x.giving(1, 5), 2);
        due.is("nobody saw it", x.giving(2, 5), 0);
        TurfGiving y = Due.of(LAND + "swears = seen - 1;dies = if age < 50 then 100 else 0;");
        y.years(1);
        due.is("two saw it, one of whom is dead", y.giving(0, 5), 1);
        due.sentence("since: how many years ago the GIVING was (for SWEARS)");
        TurfGiving z = Due.of(LAND + "giving p a b 0 u;giving p a b 99 u;swears = if since < 99 then 0 else 1;");
        due.is("99", z.count(6), 8);
        z.years(60);
        z.years(39);
        due.is("99 years later", z.count(6), 15);
        z.give(0, 0, 1, 1);
        due.is("of now", z.giving(4, 5), 0);
    }

    private static void swearsMoreThanZero() {
        due.sentence("A WITNESS that is alive SWEARS to a GIVING before it if SWEARS tells more than 0.");
        int[] tells = {LEAST, -5, -1, 0, 1, 2, 100, MOST};
        for (int told : tells) {
            due.is("swears " + told, Due.of(LAND + "swears = " + ofInts(told) + ";").giving(0, 5), told > 0 ? 3 : 0);
        }
        TurfGiving x = Due.of(LAND);
        // memory 20 and 9, since 3; memory 9, since 8
        x.years(1);
        due.is("9 less 9", x.giving(1, 5), 0);
        x.years(4);
        due.is("9 less 8", x.giving(0, 5), 3);
        x.years(1);
        due.is("9 less 9", x.giving(0, 5), 1);
        x.years(10);
        due.is("20 less 19", x.giving(0, 5), 1);
        x.years(1);
        due.is("20 less 20", x.giving(0, 5), 0);
    }

    private static void aliveAndBeforeIt() {
        due.sentence("A WITNESS that is alive SWEARS to a GIVING before it if SWEARS tells more than 0.");
        TurfGiving x = Due.of(LAND + "swears = 1;dies = if age < 20 then 100 else 0;");
        due.is("w was not there", x.giving(0, 5), 3);
        due.is("w was nowhere", x.witness(2, 3), 0);
        due.is("v was at both", x.witness(1, 3), 2);
        x.years(1);
        due.is("v is dead", x.giving(0, 5), 1);
        due.is("v is dead", x.witness(1, 3), 0);
        due.is("v was there", x.giving(0, 4), 3);
    }

    private static void held() {
        int[] tells = {LEAST, -100, -1, 0, 1, 98, 99, 100, 101, 102, 1000, MOST};
        for (int told : tells) {
            TurfGiving x = Due.of(LAND + "dies = " + ofInts(told) + ";walks = " + ofInts(told) + ";asks = " + ofInts(told) + ";");
            due.sentence("DIES, held to 0 .. 100.");
            due.is("dies " + told, x.witness(1, 4), told < 0 ? 0 : told > 100 ? 100 : told);
            due.sentence("across, down: X, Y of the one to which), held to 0 .. 99");
            due.is("walks " + told, x.walk(0, 1), told < 0 ? 0 : told > 99 ? 99 : told);
            due.sentence("how long a turf takes, held to 0 .. 99");
            due.is("asks " + told, x.asks(1), told < 0 ? 0 : told > 99 ? 99 : told);
        }
        due.sentence("DIES, held to 0 .. 100.");
        TurfGiving sure = Due.of(LAND + "dies = 100;");
        sure.years(1);
        due.is("100: all die", sure.count(5), 0);
        TurfGiving never = Due.of(LAND + "dies = 0 - 1;");
        never.years(60);
        due.is("below 0: none dies", never.count(5), 7);
    }

    private static void walksFar() {
        due.sentence("WALKS (far: X and Y that are between two PLOTS, added; across, down: X, Y of the one to which)");
        TurfGiving x = Due.of("person a;plot p 0 0 a;plot q 9 9 a;plot r 9 0 a;plot s 0 9 a;plot t 0 0 a;");
        int[][] far = {{0, 18, 9, 9, 0}, {18, 0, 9, 9, 18}, {9, 9, 0, 18, 9}, {9, 9, 18, 0, 9}, {0, 18, 9, 9, 0}};
        for (int from = 0; from < 5; from++) {
            for (int to = 0; to < 5; to++) {
                due.is("far " + from + " " + to, x.walk(from, to), far[from][to]);
            }
        }
        TurfGiving y = Due.of("person a;plot p 1 2 a;plot q 5 7 a;walks = across * 10 + down;asks = across * 10 + down;");
        due.is("to q", y.walk(0, 1), 57);
        due.is("to p", y.walk(1, 0), 12);
        due.is("p to p", y.walk(0, 0), 12);
        due.is("asks of p", y.asks(0), 12);
        due.is("asks of q", y.asks(1), 57);
    }

    /** LOT in numbers of 64 bits, each held to 32 by hand. */
    private static long lot(long n, long seed, long which) {
        long h = seed;
        for (long it : new long[] {117, which}) {
            h = ((h ^ it) * 1103515245L + 12345L) & 0xffffffffL;
            h = h ^ (h >> 15);
        }
        return (h >> 1) % n;
    }

    private static void lots() {
        due.sentence("LOT n of a SEED and a which: h is the SEED; for each of 117, which: h becomes (h and it, each bit of which is in just one)"
                + " times 1103515245 and 12345 more, then h and h moved 15 bits down (zeros come in), likewise;"
                + " the rest of h, moved 1 bit down likewise, by n (32 bits that wrap).");
        due.is("by hand", lot(100, 7, 0), 62);
        due.is("by hand", lot(100, 7, 1), 3);
        int[] seeds = {0, 1, 7, 116, 117, 118, 5000, 9998, 9999};
        for (int seed : seeds) {
            for (int year = 0; year <= 60; year += 4) {
                for (int which = 0; which < 7; which++) {
                    dies(seed, year, which);
                }
            }
        }
        due.sentence("LOT 100 of the SEED and 8 * the year and its number is less than DIES tells");
        dies(7, 300, 6);
        dies(9999, 777, 3);
    }

    /** Whether a WITNESS dies in that year just if DIES tells one more than its LOT. */
    private static void dies(int seed, int year, int which) {
        long lot = lot(100, seed, 8L * year + which);
        for (long told = lot; told <= lot + 1; told++) {
            TurfGiving x = Due.of("witness a 1 1;witness b 1 1;witness c 1 1;witness d 1 1;witness e 1 1;witness f 1 1;witness g 1 1;seed "
                    + seed + ";dies = if year < " + year + " then 0 else if which < " + which + " then 0 else if " + which
                    + " < which then 0 else " + told + ";");
            for (int gone = 0; gone < year; gone += 60) {
                x.years(Math.min(60, year - gone));
            }
            due.is("all alive", x.count(5), 127);
            x.years(1);
            due.is("seed " + seed + " year " + year + " witness " + which + " dies " + told, x.count(5), told > lot ? 127 & ~(1 << which) : 127);
        }
    }

    // ---- GIVINGS

    private static void stands() {
        due.sentence("A GIVING STANDS if it is not UNSAID and as many as it NEEDS, or more, SWEAR to it now.");
        String five = "person a;person b;plot p 1 2 a;witness u 1 9;witness v 1 9;witness w 1 9;witness x 1 9;witness y 1 9;witness z 1 1;";
        String[] before = {"", " u", " u v", " u v w", " u v w x", " u v w x y"};
        for (int needs = 1; needs <= 4; needs++) {
            for (int there = 0; there < before.length; there++) {
                TurfGiving x = Due.of(five + "giving p a b 2 z" + before[there] + ";needs " + needs + ";");
                due.is(there + " swear", x.swearIn(0, 0), there);
                due.is("needs " + needs + ", " + there + " swear", x.giving(0, 6), there >= needs ? 1 : 0);
                x.unsay(0, true);
                due.is("unsaid", x.giving(0, 6), 0);
                x.unsay(0, false);
                due.is("said again", x.giving(0, 6), there >= needs ? 1 : 0);
            }
        }
    }

    private static void whose() {
        due.sentence("if it STANDS and who gives it is he whose the PLOT is by then, it COUNTS: it is his who gets it.");
        TurfGiving x = Due.of("person a;person b;person c;plot p 1 2 a;plot q 1 2 b;witness w 1 99;"
                + "giving p b c 1 w;giving p a b 1 w;giving q b c 1 w;giving p a c 1 w;giving p b a 1;giving p b c 1 w;giving p c a 1 w;");
        due.is("counts", x.count(7), 0b1100110);
        due.is("whose p", x.plot(0, 3), 0);
        due.is("whose q", x.plot(1, 3), 2);
        due.sentence("in the order told (those by hand behind them)");
        due.is("by hand", x.give(0, 0, 1, 1), 7);
        due.is("whose p", x.plot(0, 3), 1);
        due.is("by one whose it is not", x.give(0, 0, 2, 1), 8);
        due.is("whose p", x.plot(0, 3), 1);
        due.is("unsay what others stand on", x.unsay(5, true), true);
        due.is("whose p: b still, by giving 1", x.plot(0, 3), 1);
        due.is("counts", x.count(7), 0b000000110);
        due.sentence("WHOSE a PLOT is: at first as told");
        TurfGiving y = Due.of("person a;person b;plot p 1 2 b;");
        due.is("no givings", y.plot(0, 3), 1);
    }

    private static void aYear() {
        due.sentence("is less than DIES tells (age as it is), else its age is 1 more (999 at most)");
        TurfGiving x = Due.of("witness u 10 1;witness v 11 1;witness w 12 1;dies = if age < 12 then 0 else 100;");
        x.years(1);
        due.is("w dies at 12", x.count(5), 0b011);
        due.is("w's age", x.witness(2, 0), 12);
        due.is("v's age", x.witness(1, 0), 12);
        x.years(1);
        due.is("v dies at 12", x.count(5), 0b001);
        due.is("v's age", x.witness(1, 0), 12);
        x.years(1);
        due.is("u dies at 12", x.count(5), 0);
        due.is("u's age", x.witness(0, 0), 12);
        x.years(60);
        due.is("the dead grow no older", x.witness(0, 0), 12);
        due.sentence("It is the next year.");
        due.is("year", x.count(4), 63);
        TurfGiving y = Due.of("witness u 10 1;dies = if year < 1 then 0 else 100;");
        y.years(1);
        due.is("year 0", y.count(5), 1);
        y.years(1);
        due.is("year 1", y.count(5), 0);
    }

    private static void oldest() {
        due.sentence("(999 at most)");
        TurfGiving x = Due.of("witness u 99 1;witness v 98 1;");
        for (int i = 0; i < 14; i++) {
            x.years(60);
        }
        x.years(59);
        due.is("u", x.witness(0, 0), 998);
        due.is("v", x.witness(1, 0), 997);
        due.is("eldest", x.eldest(0), 0);
        due.is("in 2 years", x.then(0, 2, 0), 999);
        x.years(1);
        due.is("u", x.witness(0, 0), 999);
        due.is("v", x.witness(1, 0), 998);
        x.years(1);
        due.is("u", x.witness(0, 0), 999);
        due.is("v", x.witness(1, 0), 999);
        x.years(60);
        due.is("u", x.witness(0, 0), 999);
        due.is("v", x.witness(1, 0), 999);
        due.is("eldest of alike ones", x.eldest(0), 0);
        due.is("eldest", x.eldest(1), 999);
        due.is("year", x.count(4), 961);
    }

    private static void byHand() {
        due.sentence("a PLOT is GIVEN by one to another one before WITNESSES that are alive, whosever it is");
        TurfGiving x = Due.of(LAND);
        due.is("by one whose it is not", x.give(1, 1, 0, 7), 2);
        due.is("before nobody", x.give(0, 0, 1, 0), 3);
        due.sentence("(20 GIVINGS at most, those told, too)");
        for (int told = 0; told <= 12; told++) {
            TurfGiving y = Due.of("person a;person b;plot p 1 2 a;witness w 1 9;" + "giving p a b 1 w;".repeat(told));
            for (int number = told; number < 20; number++) {
                due.is("giving " + number, y.give(0, 0, 1, 1), number);
            }
            due.is("a 21st", y.give(0, 0, 1, 1), -2);
            due.is("givings", y.count(3), 20);
            due.is("things done", y.count(10), 20 - told);
        }
    }

    // ---- promises

    private static final int[] WRONG_WHATS = {LEAST, LEAST + 1, -100, -2, -1, 16, 32, 64, 100, MOST};

    private static void plot() {
        due.sentence("what 0 X, 1 Y, 2 whose it was at first, 3 WHOSE it is now, 4 how many GIVINGS of it COUNT now. NONE for others.");
        TurfGiving x = Due.of(LAND);
        int[][] rows = {{1, 2, 0, 1, 1}, {3, 5, 1, 0, 1}};
        for (int plot = 0; plot < 2; plot++) {
            for (int what = 0; what < 5; what++) {
                due.is("plot " + plot + " " + what, x.plot(plot, what), rows[plot][what]);
            }
            none("what 5", x.plot(plot, 5));
            for (int what : WRONG_WHATS) {
                none("plot " + plot + " " + what, x.plot(plot, what));
            }
        }
        for (int plot : new int[] {LEAST, -2, -1, 2, 3, 6, 7, 32, 64, MOST}) {
            for (int what = 0; what < 5; what++) {
                none("plot " + plot + " " + what, x.plot(plot, what));
            }
        }
        due.sentence("4 how many GIVINGS of it COUNT now");
        x.give(0, 1, 0, 1);
        x.give(0, 0, 1, 1);
        due.is("three", x.plot(0, 4), 3);
        x.unsay(0, true);
        due.is("the last alone", x.plot(0, 4), 1);
        x.unsay(3, true);
        due.is("none", x.plot(0, 4), 0);
    }

    private static void witness() {
        due.sentence("what 0 age (as it died, if it did), 1 MEMORY, 2: 1 alive, else 0, 3 to how many GIVINGS it SWEARS now, 4 DIES now. NONE for others.");
        TurfGiving x = Due.of(LAND + "dies = if age < 51 then 0 else 100;");
        int[][] rows = {{50, 20, 1, 1, 0}, {10, 9, 1, 2, 0}, {70, 30, 1, 0, 100}};
        for (int witness = 0; witness < 3; witness++) {
            for (int what = 0; what < 5; what++) {
                due.is("witness " + witness + " " + what, x.witness(witness, what), rows[witness][what]);
            }
            none("what 5", x.witness(witness, 5));
            for (int what : WRONG_WHATS) {
                none("witness " + witness + " " + what, x.witness(witness, what));
            }
        }
        for (int witness : new int[] {LEAST, -2, -1, 3, 6, 7, 32, 34, MOST}) {
            for (int what = 0; what < 5; what++) {
                none("witness " + witness + " " + what, x.witness(witness, what));
            }
        }
        x.years(2);
        int[][] later = {{51, 20, 0, 0, 100}, {12, 9, 1, 1, 0}, {70, 30, 0, 0, 100}};
        for (int witness = 0; witness < 3; witness++) {
            for (int what = 0; what < 5; what++) {
                due.is("later " + witness + " " + what, x.witness(witness, what), later[witness][what]);
            }
        }
    }

    private static void giving() {
        due.sentence("what 0 its PLOT, 1 who gives, 2 who gets it, 3 how many years ago, 4 its WITNESSES (bits), 5 who SWEARS now (bits),"
                + " 6: 1 it STANDS, else 0, 7: 1 it COUNTS, else 0, 8: 1 it is UNSAID, else 0. NONE for others.");
        TurfGiving x = Due.of(LAND);
        int[][] rows = {{0, 0, 1, 3, 3, 3, 1, 1, 0}, {1, 1, 0, 8, 2, 2, 1, 1, 0}};
        for (int giving = 0; giving < 2; giving++) {
            for (int what = 0; what < 9; what++) {
                due.is("giving " + giving + " " + what, x.giving(giving, what), rows[giving][what]);
            }
            none("what 9", x.giving(giving, 9));
            for (int what : WRONG_WHATS) {
                none("giving " + giving + " " + what, x.giving(giving, what));
            }
        }
        for (int giving : new int[] {LEAST, -2, -1, 2, 11, 12, 19, 20, 32, 33, MOST}) {
            for (int what = 0; what < 9; what++) {
                none("giving " + giving + " " + what, x.giving(giving, what));
            }
        }
        for (int number = 2; number < 20; number++) {
            x.give(0, 1, 0, 4);
        }
        due.is("the 20th", x.giving(19, 4), 4);
        due.is("the 20th stands", x.giving(19, 6), 1);
        due.is("the 20th counts not", x.giving(19, 7), 0);
        none("a 21st", x.giving(20, 0));
        x.undo();
        none("the 20th, undone", x.giving(19, 0));
        due.is("the 19th", x.giving(18, 0), 0);
    }

    /** A call that is refused leaves an object that tells the same as one without the call. */
    private static void nothingHappens(String what, Consumer<TurfGiving> ahead, Consumer<TurfGiving> refused) {
        TurfGiving x = Due.of(LAND + "dies = age / 4;seed 5;");
        TurfGiving y = Due.of(LAND + "dies = age / 4;seed 5;");
        ahead.accept(x);
        ahead.accept(y);
        refused.accept(x);
        due.is("nothing happens: " + what, Look.at(x), Look.at(y));
    }

    private static void livedIn(TurfGiving x) {
        x.unsay(1, true);
        x.hold(2);
        x.years(1);
        x.give(0, 1, 0, 1 & x.count(5));
        x.tell(1, true);
    }

    private static void giveRefused() {
        due.sentence("-2, and nothing happens: 20 GIVINGS are there, one of the set is not alive");
        TurfGiving x = Due.of("person a;person b;plot p 1 2 a;witness v 60 9;witness w 1 9;dies = if age < 60 then 0 else 100;");
        for (int set = 0; set < 4; set++) {
            due.is("all alive, set " + set, x.give(0, 0, 1, set), set);
        }
        x.years(1);
        due.is("v is dead", x.count(5), 2);
        due.is("before v", x.give(0, 0, 1, 1), -2);
        due.is("before v, w", x.give(0, 0, 1, 3), -2);
        due.is("givings", x.count(3), 4);
        due.is("before w", x.give(0, 0, 1, 2), 4);
        due.is("before nobody", x.give(0, 0, 1, 0), 5);
        due.is("the dead are witnesses of old", x.giving(3, 4), 3);
        for (int number = 6; number < 20; number++) {
            due.is("giving", x.give(0, 1, 0, 2), number);
        }
        due.is("full", x.give(0, 1, 0, 2), -2);
        due.is("full, before the dead", x.give(0, 1, 0, 1), -2);
        due.is("full, before nobody", x.give(0, 1, 0, 0), -2);
        due.is("things done", x.count(10), 21);
        nothingHappens("before the dead", y -> y.years(30), y -> due.is("all are dead", y.give(0, 0, 1, 7), -2));
        nothingHappens("full", NowEdgeTest::fill, y -> due.is("full", y.give(0, 0, 1, 0), -2));
    }

    private static void fill(TurfGiving x) {
        for (int number = 2; number < 20; number++) {
            x.give(0, 1, 0, 0);
        }
        // nothing can be undone then, so that Look goes back through no more than it has calls for
        x.hold(0);
        x.restore(0);
    }

    private static void giveNoSuchOnes() {
        due.sentence("NONE: no such ones, one and the same PERSON.");
        int[][] wrongs = {{-1, 0, 1, 0}, {2, 0, 1, 0}, {LEAST, 0, 1, 0}, {MOST, 0, 1, 0}, {0, -1, 1, 0}, {0, 2, 1, 0},
            {0, LEAST, 1, 0}, {0, MOST, 1, 0}, {0, 0, -1, 0}, {0, 0, 2, 0}, {0, 0, LEAST, 0}, {0, 0, MOST, 0}, {0, 0, 0, 0},
            {0, 1, 1, 0}, {0, 2, 2, 0}, {0, -1, -1, 0}, {0, 0, 1, 8}, {0, 0, 1, 9}, {0, 0, 1, 128}, {0, 0, 1, -1}, {0, 0, 1, LEAST},
            {0, 0, 1, MOST}, {0, 0, 1, 1 << 16}};
        for (int[] wrong : wrongs) {
            nothingHappens("no such ones", NowEdgeTest::livedIn,
                    y -> none("give " + wrong[0] + " " + wrong[1] + " " + wrong[2] + " " + wrong[3], y.give(wrong[0], wrong[1], wrong[2], wrong[3])));
        }
        TurfGiving none = new TurfGiving();
        none("new object", none.give(0, 0, 1, 0));
        none("nobody to witness", Due.of("person a;person b;plot p 1 1 a;").give(0, 0, 1, 1));
        due.is("nobody need witness", Due.of("person a;person b;plot p 1 1 a;").give(0, 0, 1, 0), 0);
        none("no plot", Due.of("person a;person b;").give(0, 0, 1, 0));
        String seven = "person a;person b;plot p 1 1 a;witness t 1 1;witness u 1 1;witness v 1 1;witness w 1 1;witness x 1 1;witness y 1 1;witness z 1 1;";
        due.is("all seven", Due.of(seven).give(0, 0, 1, 127), 0);
        none("an eighth", Due.of(seven).give(0, 0, 1, 128));
        none("an eighth, too", Due.of(seven).give(0, 0, 1, 255));
    }

    /** NONE comes ahead of -2 where both would fit: what is no such one cannot be given. */
    private static void giveOfTheDead() {
        due.sentence("NONE: no such ones, one and the same PERSON.");
        TurfGiving x = Due.of(LAND + "dies = 100;");
        x.years(1);
        due.is("the dead", x.give(0, 0, 1, 7), -2);
        none("the dead, and no such one", x.give(0, 0, 1, 15));
        none("the dead, the same person", x.give(0, 1, 1, 7));
        fill(x);
        none("full, the same person", x.give(0, 1, 1, 0));
        none("full, no such plot", x.give(2, 0, 1, 0));
    }

    private static void unsay() {
        due.sentence("UNSAID (or said again): true; false, and nothing happens: it is so, no such GIVING.");
        TurfGiving x = Due.of(LAND);
        for (int giving = 0; giving < 2; giving++) {
            due.is("is said", x.unsay(giving, false), false);
            due.is("unsay", x.unsay(giving, true), true);
            due.is("unsaid", x.giving(giving, 8), 1);
            due.is("is unsaid", x.unsay(giving, true), false);
            due.is("say again", x.unsay(giving, false), true);
            due.is("said", x.giving(giving, 8), 0);
            due.is("is said", x.unsay(giving, false), false);
        }
        due.is("things done", x.count(10), 4);
        for (int giving : new int[] {LEAST, -2, -1, 2, 3, 12, 20, 31, 32, 33, 64, MOST}) {
            nothingHappens("unsay " + giving, y -> y.unsay(0, true), y -> due.is("unsay " + giving, y.unsay(giving, true), false));
            nothingHappens("say " + giving, y -> y.unsay(0, true), y -> due.is("say " + giving, y.unsay(giving, false), false));
        }
        nothingHappens("it is unsaid", NowEdgeTest::livedIn, y -> due.is("unsay 1", y.unsay(1, true), false));
        nothingHappens("it is said", NowEdgeTest::livedIn, y -> due.is("say 0", y.unsay(0, false), false));
        TurfGiving by = Due.of(LAND);
        by.give(0, 1, 0, 1);
        due.is("one by hand", by.unsay(2, true), true);
        by.undo();
        by.undo();
        due.is("one by hand, undone", by.unsay(2, true), false);
        by.give(0, 1, 0, 1);
        due.is("a new one is said", by.giving(2, 8), 0);
        fill(by);
        due.is("the 20th", by.unsay(19, true), true);
        due.is("bits", by.count(8), 1 << 19);
    }

    private static void years() {
        due.sentence("n YEARS (0 .. 60; 0 is no thing done) go by: which it is; NONE, and nothing happens: no such n.");
        TurfGiving x = Due.of(LAND);
        due.is("0", x.years(0), 0);
        due.is("no thing done", x.count(10), 0);
        due.is("1", x.years(1), 1);
        due.is("60", x.years(60), 61);
        due.is("59", x.years(59), 120);
        due.is("things done", x.count(10), 3);
        due.is("0", x.years(0), 120);
        due.is("no thing done", x.count(10), 3);
        due.is("undo of the 59", x.undo(), true);
        due.is("year", x.count(4), 61);
        for (int n : new int[] {LEAST, -60, -2, -1, 61, 62, 100, 1000, MOST}) {
            nothingHappens("years " + n, NowEdgeTest::livedIn, y -> none("years " + n, y.years(n)));
        }
        nothingHappens("years 0", NowEdgeTest::livedIn, y -> due.is("years 0", y.years(0), 1));
        // sixty at once are the same as one by one
        TurfGiving atOnce = Due.of(LAND + "dies = age / 30;seed 123;");
        TurfGiving oneByOne = Due.of(LAND + "dies = age / 30;seed 123;");
        atOnce.years(60);
        for (int i = 0; i < 60; i++) {
            oneByOne.years(1);
        }
        for (int what = 0; what < 9; what++) {
            due.is("count " + what, oneByOne.count(what), atOnce.count(what));
        }
        for (int witness = 0; witness < 3; witness++) {
            due.is("age", oneByOne.witness(witness, 0), atOnce.witness(witness, 0));
        }
        due.is("a new object goes on too", new TurfGiving().years(60), 60);
    }

    private static void undo() {
        due.sentence("The last thing done (give, unsay, years) is undone: true; false: there is none (the last 30 can be).");
        TurfGiving x = Due.of(LAND);
        due.is("none", x.undo(), false);
        due.is("none", new TurfGiving().undo(), false);
        for (int things = 1; things <= 33; things++) {
            TurfGiving y = Due.of(LAND);
            for (int i = 0; i < things; i++) {
                switch (i % 3) {
                    case 0 -> y.years(1);
                    case 1 -> y.unsay(0, i % 2 == 0);
                    default -> y.unsay(1, i % 2 == 0);
                }
            }
            int done = y.count(10);
            due.is("no more than 30", done <= 30, true);
            for (int i = 0; i < done; i++) {
                due.is("can be undone", y.count(10), done - i);
                due.is("undo", y.undo(), true);
            }
            due.is("no more", y.undo(), false);
            due.is("none", y.count(10), 0);
        }
        for (int things = 29; things <= 95; things += 11) {
            TurfGiving y = new TurfGiving();
            for (int i = 0; i < things; i++) {
                y.years(1);
            }
            int can = Math.min(things, 30);
            due.is("can be undone", y.count(10), can);
            for (int i = 0; i < can; i++) {
                due.is("undo", y.undo(), true);
                due.is("year", y.count(4), things - 1 - i);
            }
            due.is("no more", y.undo(), false);
            due.is("year", y.count(4), things - can);
        }
        // what is refused, told, held, or only asked, is no thing done
        TurfGiving z = Due.of(LAND);
        z.years(2);
        z.years(0);
        z.years(61);
        z.give(0, 0, 0, 0);
        z.unsay(0, false);
        z.tell(0, true);
        z.forget();
        z.hold(0);
        z.feed(0, 0, 0, 0, 0);
        z.back(20);
        z.lasts(0);
        due.is("one thing", z.count(10), 1);
        due.is("undo", z.undo(), true);
        due.is("year", z.count(4), 0);
        due.is("none", z.undo(), false);
    }

    private static void walkAndAsks() {
        TurfGiving x = Due.of(LAND);
        int[] wrong = {LEAST, -2, -1, 2, 3, 6, 7, 32, MOST};
        for (int plot : wrong) {
            due.sentence("What WALKS tells between two PLOTS; NONE: no such ones.");
            none("walk from " + plot, x.walk(plot, 0));
            none("walk to " + plot, x.walk(0, plot));
            none("walk " + plot, x.walk(plot, plot));
            due.sentence("ASKS of a PLOT; NONE: no such one.");
            none("asks " + plot, x.asks(plot));
        }
        none("new object", new TurfGiving().walk(0, 0));
        none("new object", new TurfGiving().asks(0));
        due.is("walk", x.walk(0, 1), 5);
        due.is("walk to itself", x.walk(1, 1), 0);
        due.is("asks", x.asks(1), 1);
        TurfGiving seven = Due.of("person a;plot p 1 1 a;plot q 1 1 a;plot r 1 1 a;plot s 1 1 a;plot t 1 1 a;plot u 1 1 a;plot v 2 3 a;");
        due.is("the seventh", seven.walk(0, 6), 3);
        due.is("the seventh", seven.asks(6), 1);
        none("an eighth", seven.walk(0, 7));
        none("an eighth", seven.asks(7));
    }

    private static void count() {
        due.sentence("NONE for others.");
        TurfGiving x = Due.of(LAND);
        for (int what : WRONG_WHATS) {
            none("count " + what, x.count(what));
        }
        none("count 17", x.count(17));
        due.sentence("0 PEOPLE, 1 PLOTS, 2 WITNESSES, 3 GIVINGS, 4 the year");
        int[] first = {2, 2, 3, 2, 0};
        for (int what = 0; what < first.length; what++) {
            due.is("count " + what, x.count(what), first[what]);
            due.is("count " + what + " of a new object", new TurfGiving().count(what), 0);
        }
        due.sentence("9 bytes on the tape");
        TurfGiving taped = new TurfGiving();
        for (int bytes = 0; bytes < 2000; bytes += 20) {
            due.is("tape", taped.count(9), bytes);
            taped.feed(0, 0, 0, 0, 0);
        }
        due.is("tape", taped.count(9), 2000);
        taped.feed(0, 0, 0, 0, 0);
        due.is("tape", taped.count(9), 2000);
        taped.back(1999);
        due.is("tape", taped.count(9), 1);
        due.sentence("10 things that can be undone, 11 TOLD ones, 12 SLOTS that hold something, 13 how many it NEEDS");
        for (int slot = 0; slot < 3; slot++) {
            due.is("slots", x.count(12), slot);
            x.hold(slot);
        }
        due.is("slots", x.count(12), 3);
        for (int told = 0; told < 20; told++) {
            due.is("told", x.count(11), told);
            x.tell(0, true);
        }
        x.tell(0, true);
        due.is("told", x.count(11), 20);
        due.sentence("14 how many PLOTS are another one's than at first, 15 how many SWEAR to GIVINGS now, together.");
        due.is("both", x.count(14), 2);
        due.is("three", x.count(15), 3);
        x.give(0, 1, 0, 7);
        due.is("p is a's again", x.count(14), 1);
        due.is("six", x.count(15), 6);
        x.unsay(2, true);
        due.is("p is b's", x.count(14), 2);
        due.is("sworn to all the same", x.count(15), 6);
        due.sentence("5 WITNESSES alive (bits), 6 GIVINGS that STAND (bits), 7 that COUNT (bits), 8 that are UNSAID (bits)");
        due.is("alive", x.count(5), 7);
        due.is("stand", x.count(6), 3);
        due.is("count", x.count(7), 3);
        due.is("unsaid", x.count(8), 4);
        fill(x);
        x.unsay(19, true);
        due.is("unsaid", x.count(8), 4 + (1 << 19));
        due.is("stand", x.count(6), 3);
    }
}
