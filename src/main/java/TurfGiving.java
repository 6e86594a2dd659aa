import java.util.Arrays;

/** Land that passes by a turf given from hand to hand before neighbours. */
public final class TurfGiving {
    public static final int NONE = -1;

    /** What is answered where the call is right, but there is nothing to tell. */
    private static final int NOT_SO = -2;

    private static final int MOST_BYTES = 2000;
    private static final int MOST_TOKENS = 400;
    private static final int MOST_LETTERS = 8;
    private static final int MOST_DIGITS = 4;
    private static final int MOST_PEOPLE = 6;
    private static final int MOST_PLOTS = 7;
    private static final int MOST_WITNESSES = 7;
    private static final int MOST_GIVINGS_OF_A_TEXT = 12;
    private static final int MOST_GIVINGS = 20;
    private static final int MOST_NAMES = MOST_PEOPLE + MOST_PLOTS + MOST_WITNESSES;
    private static final int MOST_IFS = 4;
    private static final int MOST_BRACKETS = 6;
    private static final int MOST_UNDONE = 30;
    private static final int MOST_TOLD = 20;
    private static final int MOST_COVERING = 4;
    private static final int MOST_YEARS = 60;
    private static final int MOST_SEEDS = 20;
    private static final int MOST_TIME = 999;
    private static final int FAR_YEARS = 200;
    private static final int OLDEST = 999;
    private static final int SLOTS = 3;
    private static final int SETS_OF_PLOTS = 1 << MOST_PLOTS;

    private static final int SYNTAX = 1;
    private static final int ROOM = 2;
    private static final int TWICE = 3;
    private static final int UNKNOWN = 4;
    private static final int WRONG = 5;

    /** The kinds of what a text is made of: first the two that are no TOKENS. */
    private static final int END = 0;
    private static final int BAD = 1;
    private static final int NAME = 2;
    private static final int INT = 3;
    private static final int SEMICOLON = 4;
    private static final int EQUALS = 5;
    private static final int PLUS = 6;
    private static final int MINUS = 7;
    private static final int TIMES = 8;
    private static final int OVER = 9;
    private static final int LESS = 10;
    private static final int OPEN = 11;
    private static final int CLOSE = 12;
    private static final int PERSON = 13;
    private static final int PLOT = 14;
    private static final int WITNESS = 15;
    private static final int GIVING = 16;
    private static final int SWEARS = 17;
    private static final int DIES = 18;
    private static final int WALKS = 19;
    private static final int ASKS = 20;
    private static final int NEEDS = 21;
    private static final int SEED = 22;
    private static final int IF = 23;
    private static final int THEN = 24;
    private static final int ELSE = 25;
    private static final int FIRST_VAR = 26;
    private static final int LAST_VAR = 34;

    /** The signs, in the order of their kinds. */
    private static final String SIGNS = ";=+-*/<()";

    /** The words in quotes, each in eight places, in the order of their kinds. */
    private static final String WORDS = "person  plot    witness giving  swears  dies    walks   asks    needs   seed    if      then    else    age     memory  since   year    which   seen    far     across  down    ";
    private static final int WORD_COUNT = LAST_VAR - PERSON + 1;

    /** The places of the VARS in a row of them, in the order of their kinds. */
    private static final int AGE = 0;
    private static final int MEMORY = 1;
    private static final int SINCE = 2;
    private static final int YEAR = 3;
    private static final int WHICH = 4;
    private static final int SEEN = 5;
    private static final int FAR = 6;
    private static final int ACROSS = 7;
    private static final int DOWN = 8;
    private static final int VARS = 9;

    private static final int LAW_COUNT = 4;
    private static final int LAW_OF_SWEARING = 0;
    private static final int LAW_OF_DYING = 1;
    private static final int LAW_OF_WALKING = 2;
    private static final int LAW_OF_ASKING = 3;

    /** The steps of a LAW; the sums have the kinds of their signs. */
    private static final int PUSH = 0;
    private static final int LOOK = 1;
    private static final int UNLESS_LESS = 2;
    private static final int ANSWER = 3;

    private final byte[] tape = new byte[MOST_BYTES];
    private int taped = 0;
    private final Text text = new Text();
    private Land land = new Land();
    private Land spareLand = new Land();
    private final Grammar grammar = new Grammar(text, spareLand);
    private final Telling telling = new Telling(text, spareLand);
    private final Givings givings = new Givings();
    private final Moment now = new Moment();
    private final Moment ahead = new Moment();
    private final Court court = new Court(givings, land);
    private final Rounds rounds = new Rounds();
    private final Past past = new Past();
    private final int[] toldBy = new int[MOST_TOLD];
    private int toldToSwear = 0;
    private int told = 0;
    private final int[] wouldSwear = new int[MOST_YEARS + 1];

    public TurfGiving() {
    }

    public int feed(int a, int b, int c, int d, int e) {
        if (taped > MOST_BYTES - 20) {
            return NONE;
        }
        tapeFour(a);
        tapeFour(b);
        tapeFour(c);
        tapeFour(d);
        tapeFour(e);
        return taped;
    }

    public int back(int n) {
        if (n < 0 || n > taped) {
            return NONE;
        }
        taped -= n;
        return taped;
    }

    public int read() {
        text.scan(tape, taped);
        taped = 0;
        spareLand.clear();
        if (grammar.keeps(spareLand) && telling.fills(spareLand)) {
            beginWithSpareLand();
        }
        return text.fault;
    }

    public int place() {
        return text.place;
    }

    public int plot(int plot, int what) {
        if (noPlot(plot)) {
            return NONE;
        }
        switch (what) {
            case 0:
                return land.across[plot];
            case 1:
                return land.down[plot];
            case 2:
                return land.first[plot];
            case 3:
                return court.owner(now, plot);
            case 4:
                return Integer.bitCount(court.counting(now, plot));
            default:
                return NONE;
        }
    }

    public int witness(int witness, int what) {
        if (noWitness(witness)) {
            return NONE;
        }
        switch (what) {
            case 0:
                return now.age[witness];
            case 1:
                return land.memory[witness];
            case 2:
                return (now.alive >> witness) & 1;
            case 3:
                return Integer.bitCount(court.swornToBy(now, witness));
            case 4:
                return court.deathIn100(now, witness);
            default:
                return NONE;
        }
    }

    public int giving(int giving, int what) {
        if (noGiving(giving)) {
            return NONE;
        }
        switch (what) {
            case 0:
                return givings.plot[giving];
            case 1:
                return givings.from[giving];
            case 2:
                return givings.to[giving];
            case 3:
                return now.year - givings.begun[giving];
            case 4:
                return givings.before[giving];
            case 5:
                return court.swearers(now, giving, givings.before[giving]);
            case 6:
                return court.stands(now, giving) ? 1 : 0;
            case 7:
                return (court.counting(now, givings.plot[giving]) >> giving) & 1;
            case 8:
                return (now.unsaid >> giving) & 1;
            default:
                return NONE;
        }
    }

    public int give(int plot, int from, int to, int set) {
        if (noPlot(plot) || noPerson(from) || noPerson(to) || from == to || (set >>> land.witnesses) != 0) {
            return NONE;
        }
        if (now.givings >= MOST_GIVINGS || (set & ~now.alive) != 0) {
            return NOT_SO;
        }
        past.keep(now);
        int number = now.givings;
        givings.put(number, plot, from, to, now.year, set);
        now.givings = number + 1;
        return number;
    }

    public boolean unsay(int giving, boolean un) {
        if (noGiving(giving)) {
            return false;
        }
        int bit = 1 << giving;
        boolean isSo = (now.unsaid & bit) != 0;
        if (isSo == un) {
            return false;
        }
        past.keep(now);
        now.unsaid ^= bit;
        return true;
    }

    public int years(int n) {
        if (noYears(n)) {
            return NONE;
        }
        if (n > 0) {
            past.keep(now);
            court.passYears(now, n, land.seed);
        }
        return now.year;
    }

    public boolean undo() {
        return past.takeBack(now);
    }

    public int lasts(int giving) {
        if (noGiving(giving)) {
            return NONE;
        }
        ahead.become(now);
        for (int years = 0; years <= FAR_YEARS; years++) {
            if (!court.stands(ahead, giving)) {
                return years;
            }
            court.passQuietYear(ahead);
        }
        return NOT_SO;
    }

    public int book() {
        int others = 0;
        for (int plot = 0; plot < land.plots; plot++) {
            if (court.ownerByBook(now, plot) != court.owner(now, plot)) {
                others++;
            }
        }
        return others;
    }

    public int hangs(int what) {
        if (what != 0 && what != 1) {
            return NONE;
        }
        int best = NOT_SO;
        int most = NOT_SO;
        for (int witness = 0; witness < land.witnesses; witness++) {
            int bit = 1 << witness;
            if ((now.alive & bit) != 0) {
                ahead.become(now);
                ahead.alive &= ~bit;
                int others = court.plotsOfOthers(now, ahead);
                if (others > most) {
                    most = others;
                    best = witness;
                }
            }
        }
        return what == 0 ? best : most;
    }

    public int cover(int n, int i) {
        if (noYears(n) || i < NONE || i >= MOST_COVERING) {
            return NONE;
        }
        int set = fewestWitnesses(n);
        // No GIVING stands before nobody, so that the empty set tells that there is none.
        if (set == 0) {
            return NOT_SO;
        }
        return i == NONE ? Integer.bitCount(set) : bitAt(set, i);
    }

    public int walk(int plot, int to) {
        if (noPlot(plot) || noPlot(to)) {
            return NONE;
        }
        return court.walking(now, plot, to);
    }

    public int asks(int plot) {
        if (noPlot(plot)) {
            return NONE;
        }
        return court.asking(now, plot);
    }

    public int round(int set, int i) {
        if ((set >>> land.plots) != 0 || i < NONE || i >= Integer.bitCount(set)) {
            return NONE;
        }
        rounds.measure(court, now, set);
        return i == NONE ? rounds.shortest(set) : rounds.plotAt(set, i);
    }

    public int has(int person, int n) {
        if (noPerson(person) || noYears(n)) {
            return NONE;
        }
        lookAhead(n, land.seed);
        court.countPlots(ahead);
        return court.plotsOf[person];
    }

    public int within(int plot, int t) {
        if (noPlot(plot) || t < 0 || t > MOST_TIME) {
            return NONE;
        }
        int all = (1 << land.plots) - 1;
        rounds.measure(court, now, all);
        return rounds.mostFrom(plot, all, t);
    }

    public int rich(int n, int what) {
        if (noYears(n) || (what != 0 && what != 1)) {
            return NONE;
        }
        lookAhead(n, land.seed);
        court.countPlots(ahead);
        int best = NOT_SO;
        int most = NOT_SO;
        for (int person = 0; person < land.people; person++) {
            if (court.plotsOf[person] > most) {
                most = court.plotsOf[person];
                best = person;
            }
        }
        return what == 0 ? best : most;
    }

    public int chain(int plot, int i) {
        if (noPlot(plot) || i < NONE) {
            return NONE;
        }
        int counting = court.counting(now, plot);
        if (i == NONE) {
            return Integer.bitCount(counting) + 1;
        }
        if (i == 0) {
            return land.first[plot];
        }
        int giving = bitAt(counting, i - 1);
        return noGiving(giving) ? NONE : givings.to[giving];
    }

    public int idle(int plot) {
        if (noPlot(plot)) {
            return NONE;
        }
        return court.standing(now) & givings.ofPlot(plot, now.givings) & ~court.counting(now, plot);
    }

    public int eldest(int what) {
        if (what != 0 && what != 1) {
            return NONE;
        }
        int best = NOT_SO;
        int most = NOT_SO;
        for (int witness = 0; witness < land.witnesses; witness++) {
            if (((now.alive >> witness) & 1) != 0 && now.age[witness] > most) {
                most = now.age[witness];
                best = witness;
            }
        }
        return what == 0 ? best : most;
    }

    public int lapse(int n) {
        if (noYears(n)) {
            return NONE;
        }
        lookAhead(n, land.seed);
        return Integer.bitCount(court.standing(now) & ~court.standing(ahead));
    }

    public int passes(int plot) {
        if (noPlot(plot)) {
            return NONE;
        }
        int owner = court.owner(now, plot);
        ahead.become(now);
        for (int years = 1; years <= FAR_YEARS; years++) {
            court.passYear(ahead, land.seed);
            if (court.owner(ahead, plot) != owner) {
                return years;
            }
        }
        return NOT_SO;
    }

    public int weakest(int what) {
        if (what != 0 && what != 1) {
            return NONE;
        }
        int counting = court.countingOfAll(now);
        int best = NOT_SO;
        int fewest = NOT_SO;
        for (int giving = 0; giving < now.givings; giving++) {
            if (((counting >> giving) & 1) != 0) {
                int swearing = court.howManySwear(now, giving);
                if (best == NOT_SO || swearing < fewest) {
                    fewest = swearing;
                    best = giving;
                }
            }
        }
        return what == 0 ? best : fewest;
    }

    public int ownerIn(int plot, int n) {
        if (noPlot(plot) || noYears(n)) {
            return NONE;
        }
        lookAhead(n, land.seed);
        return court.owner(ahead, plot);
    }

    public int then(int witness, int n, int what) {
        if (noWitness(witness) || noYears(n) || (what != 0 && what != 1)) {
            return NONE;
        }
        lookAhead(n, land.seed);
        return what == 0 ? ahead.age[witness] : (ahead.alive >> witness) & 1;
    }

    public int swearIn(int giving, int n) {
        if (noGiving(giving) || noYears(n)) {
            return NONE;
        }
        lookAhead(n, land.seed);
        return court.howManySwear(ahead, giving);
    }

    public int year(int plot, int person, int n, int s) {
        if (noPlot(plot) || noPerson(person) || noYears(n) || s < 1 || s > MOST_SEEDS) {
            return NONE;
        }
        int times = 0;
        for (int i = 0; i < s; i++) {
            lookAhead(n, land.seed + i);
            if (court.owner(ahead, plot) == person) {
                times++;
            }
        }
        return times;
    }

    public int tell(int witness, boolean swears) {
        if (noWitness(witness) || told >= MOST_TOLD) {
            return NONE;
        }
        int number = told;
        toldBy[number] = witness;
        toldToSwear = swears ? toldToSwear | (1 << number) : toldToSwear & ~(1 << number);
        told = number + 1;
        return number;
    }

    public int forget() {
        int forgotten = told;
        told = 0;
        return forgotten;
    }

    public int which(int k, int what) {
        if (k < 0 || k > told || (what != 0 && what != 1)) {
            return NONE;
        }
        int left = leftBy(k);
        return what == 0 ? Integer.bitCount(left) : left;
    }

    public int ask(int k) {
        if (k < 0 || k > told) {
            return NONE;
        }
        int left = leftBy(k);
        if (left == 0) {
            return NOT_SO;
        }
        int best = NOT_SO;
        int fewest = MOST_GIVINGS + 1;
        for (int witness = 0; witness < land.witnesses; witness++) {
            int sworn = Integer.bitCount(left & court.swornToBy(now, witness));
            int atWorst = Math.max(sworn, Integer.bitCount(left) - sworn);
            if (atWorst < fewest) {
                fewest = atWorst;
                best = witness;
            }
        }
        return best;
    }

    public boolean hold(int slot) {
        if (slot < 0 || slot >= SLOTS) {
            return false;
        }
        past.holdIn(slot, now, givings);
        return true;
    }

    public boolean restore(int slot) {
        if (slot < 0 || slot >= SLOTS) {
            return false;
        }
        return past.goOnFrom(slot, now, givings);
    }

    public int count(int what) {
        switch (what) {
            case 0:
                return land.people;
            case 1:
                return land.plots;
            case 2:
                return land.witnesses;
            case 3:
                return now.givings;
            case 4:
                return now.year;
            case 5:
                return now.alive;
            case 6:
                return court.standing(now);
            case 7:
                return court.countingOfAll(now);
            case 8:
                return now.unsaid;
            case 9:
                return taped;
            case 10:
                return past.size;
            case 11:
                return told;
            case 12:
                return Integer.bitCount(past.slotsHeld);
            case 13:
                return land.needs;
            case 14:
                return plotsPassed();
            case 15:
                return allSwearing();
            default:
                return NONE;
        }
    }

    private boolean noPlot(int plot) {
        return plot < 0 || plot >= land.plots;
    }

    private boolean noPerson(int person) {
        return person < 0 || person >= land.people;
    }

    private boolean noWitness(int witness) {
        return witness < 0 || witness >= land.witnesses;
    }

    private boolean noGiving(int giving) {
        return giving < 0 || giving >= now.givings;
    }

    private static boolean noYears(int n) {
        return n < 0 || n > MOST_YEARS;
    }

    private void tapeFour(int four) {
        for (int shift = 24; shift >= 0 && taped < MOST_BYTES; shift -= 8) {
            tape[taped] = (byte) (four >>> shift);
            taped++;
        }
    }

    /** The land just read takes the place of the one ahead, whose rows serve the next reading. */
    private void beginWithSpareLand() {
        Land read = spareLand;
        spareLand = land;
        land = read;
        court.land = read;
        givings.become(read.told);
        now.begin(read);
        past.forgetAll();
        told = 0;
    }

    /** Sets the moment that would be behind n YEARS. */
    private void lookAhead(int n, int seed) {
        ahead.become(now);
        court.passYears(ahead, n, seed);
    }

    /** The first set of the fewest WITNESSES that covers n YEARS; 0: none does. */
    private int fewestWitnesses(int n) {
        for (int size = land.needs; size <= MOST_COVERING; size++) {
            seeWhoWouldSwear(n, size);
            // Of two sets of one size, the first by its WITNESSES is the higher number once mirrored.
            for (int mirror = (1 << MOST_WITNESSES) - 1; mirror > 0; mirror--) {
                if (Integer.bitCount(mirror) == size) {
                    int set = mirrored(mirror);
                    if ((set & ~now.alive) == 0 && coversYears(set, n)) {
                        return set;
                    }
                }
            }
        }
        return 0;
    }

    /** Year by year: who would swear to a GIVING of now that so many saw. */
    private void seeWhoWouldSwear(int n, int seen) {
        ahead.become(now);
        for (int years = 0; years <= n && years < wouldSwear.length; years++) {
            wouldSwear[years] = court.swearersOf(ahead, now.alive, years, seen);
            court.passQuietYear(ahead);
        }
    }

    private boolean coversYears(int set, int n) {
        for (int years = 0; years <= n && years < wouldSwear.length; years++) {
            if (Integer.bitCount(wouldSwear[years] & set) < land.needs) {
                return false;
            }
        }
        return true;
    }

    private static int mirrored(int set) {
        int mirror = 0;
        for (int bit = 0; bit < MOST_WITNESSES; bit++) {
            if (((set >> bit) & 1) != 0) {
                mirror |= 1 << (MOST_WITNESSES - 1 - bit);
            }
        }
        return mirror;
    }

    /** The i-th of the numbers whose bits are set; NONE if there are not so many. */
    private static int bitAt(int set, int i) {
        int seen = 0;
        for (int bit = 0; bit < MOST_GIVINGS; bit++) {
            if (((set >>> bit) & 1) != 0) {
                if (seen == i) {
                    return bit;
                }
                seen++;
            }
        }
        return NONE;
    }

    /** The GIVINGS of which the first k that were TOLD are so. */
    private int leftBy(int k) {
        int left = (1 << now.givings) - 1;
        for (int i = 0; i < k && i < toldBy.length; i++) {
            int sworn = court.swornToBy(now, toldBy[i]);
            left &= ((toldToSwear >> i) & 1) != 0 ? sworn : ~sworn;
        }
        return left;
    }

    private int plotsPassed() {
        int passed = 0;
        for (int plot = 0; plot < land.plots; plot++) {
            if (court.owner(now, plot) != land.first[plot]) {
                passed++;
            }
        }
        return passed;
    }

    private int allSwearing() {
        int all = 0;
        for (int giving = 0; giving < now.givings; giving++) {
            all += court.howManySwear(now, giving);
        }
        return all;
    }

    /** What a tape is made of, TOKEN by TOKEN, and the FAULT that was found in it. */
    private static final class Text {
        // One row more than a text may have: for the 401st TOKEN, or for the end.
        private final int[] kind = new int[MOST_TOKENS + 1];
        private final int[] begin = new int[MOST_TOKENS + 1];
        private final long[] value = new long[MOST_TOKENS + 1];
        private final long[] words = new long[WORD_COUNT];
        int fault = 0;
        int place = NONE;

        Text() {
            for (int word = 0; word < WORD_COUNT; word++) {
                for (int i = 0; i < MOST_LETTERS; i++) {
                    char letter = WORDS.charAt(word * MOST_LETTERS + i);
                    if (letter != ' ') {
                        words[word] = withLetter(words[word], letter);
                    }
                }
            }
        }

        /** Letters packed by fives of bits: a word of eight at most is one number. */
        private static long withLetter(long packed, int letter) {
            return packed * 32 + (letter - 'a' + 1);
        }

        void scan(byte[] bytes, int length) {
            fault = 0;
            place = NONE;
            int at = 0;
            for (int row = 0; row < kind.length; row++) {
                at = behindBlanks(bytes, at, length);
                begin[row] = at;
                at = scanOne(bytes, at, length, row);
                if (kind[row] == END || kind[row] == BAD) {
                    return;
                }
            }
        }

        boolean refuse(int number, int row) {
            fault = number;
            place = row >= 0 && row < begin.length ? begin[row] : NONE;
            return false;
        }

        int kindAt(int row) {
            return row >= 0 && row < kind.length ? kind[row] : END;
        }

        long valueAt(int row) {
            return row >= 0 && row < value.length ? value[row] : 0;
        }

        private static int behindBlanks(byte[] bytes, int from, int length) {
            int at = from;
            while (at < length && at < bytes.length && isBlank(bytes[at])) {
                at++;
            }
            return at;
        }

        private static boolean isBlank(int sign) {
            return sign == ' ' || sign == 9 || sign == 10 || sign == 13;
        }

        private static boolean isLetter(int sign) {
            return sign >= 'a' && sign <= 'z';
        }

        private static boolean isDigit(int sign) {
            return sign >= '0' && sign <= '9';
        }

        private int scanOne(byte[] bytes, int at, int length, int row) {
            value[row] = 0;
            if (at >= length || at >= bytes.length) {
                kind[row] = END;
                return at;
            }
            int sign = bytes[at] & 255;
            if (isLetter(sign)) {
                return scanLetters(bytes, at, length, row);
            }
            if (isDigit(sign)) {
                return scanDigits(bytes, at, length, row);
            }
            int found = SIGNS.indexOf((char) sign);
            kind[row] = found < 0 ? BAD : SEMICOLON + found;
            return at + 1;
        }

        private int scanLetters(byte[] bytes, int from, int length, int row) {
            int at = from;
            long packed = 0;
            while (at < length && at < bytes.length && isLetter(bytes[at])) {
                packed = withLetter(packed, bytes[at]);
                at++;
            }
            value[row] = packed;
            kind[row] = at - from > MOST_LETTERS ? BAD : kindOfWord(packed);
            return at;
        }

        private int kindOfWord(long packed) {
            for (int word = 0; word < words.length; word++) {
                if (words[word] == packed) {
                    return PERSON + word;
                }
            }
            return NAME;
        }

        private int scanDigits(byte[] bytes, int from, int length, int row) {
            int at = from;
            long number = 0;
            while (at < length && at < bytes.length && isDigit(bytes[at])) {
                number = number * 10 + (bytes[at] - '0');
                at++;
            }
            value[row] = number;
            kind[row] = at - from > MOST_DIGITS ? BAD : INT;
            return at;
        }
    }

    /** The first look at a text: SYNTAX and ROOM. Its LAWS are taken down on the way. */
    private static final class Grammar {
        private final Text text;
        private Laws laws;
        private int at = 0;
        private int people = 0;
        private int plots = 0;
        private int witnesses = 0;
        private int givings = 0;
        // Signs of an E that wait for what stands behind them: two and a bracket at each depth.
        private final int[] waiting = new int[3 * (MOST_BRACKETS + 1)];
        private int height = 0;
        private int depth = 0;

        Grammar(Text text, Land land) {
            this.text = text;
            this.laws = land.laws;
        }

        boolean keeps(Land land) {
            laws = land.laws;
            at = 0;
            people = 0;
            plots = 0;
            witnesses = 0;
            givings = 0;
            for (int i = 0; i <= MOST_TOKENS && text.kindAt(at) != END; i++) {
                int first = text.kindAt(at);
                boolean isLaw = first >= SWEARS && first <= ASKS;
                if (!(isLaw ? keepsLaw(first) : keepsTell(first))) {
                    return false;
                }
            }
            return true;
        }

        private boolean keepsTell(int first) {
            switch (first) {
                case PERSON:
                    people++;
                    return hasRoom(people, MOST_PEOPLE) && take(first) && take(NAME) && take(SEMICOLON);
                case PLOT:
                    plots++;
                    return hasRoom(plots, MOST_PLOTS) && take(first) && take(NAME) && take(INT) && take(INT)
                            && take(NAME) && take(SEMICOLON);
                case WITNESS:
                    witnesses++;
                    return hasRoom(witnesses, MOST_WITNESSES) && take(first) && take(NAME) && take(INT)
                            && take(INT) && take(SEMICOLON);
                case GIVING:
                    givings++;
                    return hasRoom(givings, MOST_GIVINGS_OF_A_TEXT) && take(first) && take(NAME) && take(NAME)
                            && take(NAME) && take(INT) && takeNames() && take(SEMICOLON);
                case NEEDS:
                case SEED:
                    return take(first) && take(INT) && take(SEMICOLON);
                default:
                    return text.refuse(SYNTAX, at);
            }
        }

        private boolean hasRoom(int many, int most) {
            return many <= most || text.refuse(ROOM, at);
        }

        private boolean take(int kind) {
            if (text.kindAt(at) != kind) {
                return text.refuse(SYNTAX, at);
            }
            if (at >= MOST_TOKENS) {
                return text.refuse(ROOM, at);
            }
            at++;
            return true;
        }

        private boolean takeNames() {
            for (int i = 0; i <= MOST_TOKENS && text.kindAt(at) == NAME; i++) {
                if (!take(NAME)) {
                    return false;
                }
            }
            return true;
        }

        private boolean keepsLaw(int first) {
            if (!(take(first) && take(EQUALS))) {
                return false;
            }
            laws.begin(first - SWEARS);
            for (int ifs = 0; ifs <= MOST_IFS && text.kindAt(at) == IF; ifs++) {
                if (ifs == MOST_IFS) {
                    return text.refuse(ROOM, at);
                }
                if (!(take(IF) && keepsSum() && take(LESS) && keepsSum() && take(THEN))) {
                    return false;
                }
                int leap = laws.put(UNLESS_LESS, 0);
                if (!(keepsSum() && take(ELSE))) {
                    return false;
                }
                laws.put(ANSWER, 0);
                laws.leapToHere(leap);
            }
            if (!keepsSum()) {
                return false;
            }
            laws.put(ANSWER, 0);
            return take(SEMICOLON);
        }

        /** An E: its signs wait until what they bind is taken down. */
        private boolean keepsSum() {
            height = 0;
            depth = 0;
            for (int i = 0; i <= MOST_TOKENS; i++) {
                if (!takeOpenings() || !takeUnit() || !takeClosings()) {
                    return false;
                }
                int sign = text.kindAt(at);
                if (rank(sign) == 0) {
                    settle(1);
                    return depth == 0 || take(CLOSE);
                }
                settle(rank(sign));
                if (!take(sign)) {
                    return false;
                }
                await(sign);
            }
            return false;
        }

        private static int rank(int sign) {
            if (sign == PLUS || sign == MINUS) {
                return 1;
            }
            return sign == TIMES || sign == OVER ? 2 : 0;
        }

        private boolean takeOpenings() {
            for (int i = 0; i <= MOST_TOKENS && text.kindAt(at) == OPEN; i++) {
                if (depth == MOST_BRACKETS) {
                    return text.refuse(ROOM, at);
                }
                if (!take(OPEN)) {
                    return false;
                }
                await(OPEN);
                depth++;
            }
            return true;
        }

        private boolean takeUnit() {
            int kind = text.kindAt(at);
            if (kind == INT) {
                laws.put(PUSH, (int) text.valueAt(at));
                return take(kind);
            }
            if (kind >= FIRST_VAR && kind <= LAST_VAR) {
                laws.put(LOOK, kind - FIRST_VAR);
                return take(kind);
            }
            return text.refuse(SYNTAX, at);
        }

        private boolean takeClosings() {
            for (int i = 0; i <= MOST_TOKENS && depth > 0 && text.kindAt(at) == CLOSE; i++) {
                if (!take(CLOSE)) {
                    return false;
                }
                settle(1);
                height = Math.max(height - 1, 0);
                depth--;
            }
            return true;
        }

        private void await(int sign) {
            if (height < waiting.length) {
                waiting[height] = sign;
                height++;
            }
        }

        /** Takes down the signs that bind at least as strongly, back to the bracket that is open. */
        private void settle(int least) {
            for (int i = waiting.length; i > 0 && height > 0; i--) {
                int sign = waiting[height - 1];
                if (rank(sign) < least) {
                    return;
                }
                laws.put(sign, 0);
                height--;
            }
        }
    }

    /** The second look, at a text that keeps to the grammar: TWICE, NAME and WRONG. It fills the land. */
    private static final class Telling {
        private final Text text;
        private Land land;
        private int at = 0;

        Telling(Text text, Land land) {
            this.text = text;
            this.land = land;
        }

        boolean fills(Land into) {
            land = into;
            at = 0;
            for (int i = 0; i <= MOST_TOKENS && at < MOST_TOKENS && text.kindAt(at) != END; i++) {
                int first = text.kindAt(at);
                at++;
                if (!fillsOne(first)) {
                    return false;
                }
                passSemicolon();
            }
            return true;
        }

        private boolean fillsOne(int first) {
            switch (first) {
                case PERSON:
                    return fillsPerson();
                case PLOT:
                    return fillsPlot();
                case WITNESS:
                    return fillsWitness();
                case GIVING:
                    return fillsGiving();
                case NEEDS:
                    land.needs = takeNumber(1, 4);
                    return text.fault == 0;
                case SEED:
                    land.seed = takeNumber(0, 9999);
                    return text.fault == 0;
                default:
                    return true;
            }
        }

        private void passSemicolon() {
            for (int i = 0; i <= MOST_TOKENS && at < MOST_TOKENS && text.kindAt(at) != SEMICOLON; i++) {
                at++;
            }
            at = Math.min(at + 1, MOST_TOKENS);
        }

        private boolean fillsPerson() {
            int row = land.people;
            if (row >= MOST_PEOPLE || !takeNewName(PERSON, row)) {
                return false;
            }
            land.people++;
            return true;
        }

        private boolean fillsPlot() {
            int row = land.plots;
            if (row >= MOST_PLOTS || !takeNewName(PLOT, row)) {
                return false;
            }
            land.across[row] = takeNumber(0, 9);
            land.down[row] = takeNumber(0, 9);
            land.first[row] = takeKnown(PERSON);
            land.plots++;
            return text.fault == 0;
        }

        private boolean fillsWitness() {
            int row = land.witnesses;
            if (row >= MOST_WITNESSES || !takeNewName(WITNESS, row)) {
                return false;
            }
            land.age[row] = takeNumber(0, 99);
            land.memory[row] = takeNumber(0, 99);
            land.witnesses++;
            return text.fault == 0;
        }

        private boolean fillsGiving() {
            int plot = takeKnown(PLOT);
            int from = takeKnown(PERSON);
            int to = takeKnown(PERSON);
            if (text.fault == 0 && from == to) {
                return text.refuse(TWICE, at - 1);
            }
            int ago = takeNumber(0, 99);
            int before = 0;
            for (int i = 0; i <= MOST_TOKENS && text.fault == 0 && text.kindAt(at) == NAME; i++) {
                int bit = 1 << takeKnown(WITNESS);
                if (text.fault == 0 && (before & bit) != 0) {
                    return text.refuse(TWICE, at - 1);
                }
                before |= bit;
            }
            if (text.fault != 0 || land.givings >= MOST_GIVINGS_OF_A_TEXT) {
                return false;
            }
            land.told.put(land.givings, plot, from, to, -ago, before);
            land.givings++;
            return true;
        }

        /** Once a FAULT is found, the rest of its TELL is not looked at, so that the first one stays. */
        private int takeNumber(int least, int most) {
            if (text.fault != 0 || at >= MOST_TOKENS) {
                return least;
            }
            long number = text.valueAt(at);
            if (number < least || number > most) {
                text.refuse(WRONG, at);
                return least;
            }
            at++;
            return (int) number;
        }

        private boolean takeNewName(int sort, int number) {
            if (at >= MOST_TOKENS) {
                return false;
            }
            if (land.rowOfName(text.valueAt(at)) != NONE) {
                return text.refuse(TWICE, at);
            }
            land.addName(text.valueAt(at), sort, number);
            at++;
            return true;
        }

        private int takeKnown(int sort) {
            if (text.fault != 0 || at >= MOST_TOKENS) {
                return 0;
            }
            int number = land.numberOfName(text.valueAt(at), sort);
            if (number == NONE) {
                text.refuse(UNKNOWN, at);
                return 0;
            }
            at++;
            return number;
        }
    }

    /** The LAWS of a text, as steps of a reckoning with a stack. */
    private static final class Laws {
        // A step needs a TOKEN of its own, but for those of the four LAWS that are not told.
        private final int[] step = new int[MOST_TOKENS + 16];
        private final int[] value = new int[MOST_TOKENS + 16];
        private int length = 0;
        private final int[] start = new int[LAW_COUNT];
        // Two wait at each depth of brackets on each side of a sign <.
        private final int[] stack = new int[4 * (MOST_BRACKETS + 1)];

        void clear() {
            length = 0;
            begin(LAW_OF_SWEARING);
            put(LOOK, MEMORY);
            put(LOOK, SINCE);
            put(MINUS, 0);
            put(ANSWER, 0);
            begin(LAW_OF_DYING);
            put(PUSH, 0);
            put(ANSWER, 0);
            begin(LAW_OF_WALKING);
            put(LOOK, FAR);
            put(ANSWER, 0);
            begin(LAW_OF_ASKING);
            put(PUSH, 1);
            put(ANSWER, 0);
        }

        void begin(int law) {
            if (law >= 0 && law < start.length) {
                start[law] = length;
            }
        }

        int put(int what, int with) {
            int here = length;
            if (here < step.length) {
                step[here] = what;
                value[here] = with;
                length++;
            }
            return here;
        }

        void leapToHere(int leap) {
            if (leap >= 0 && leap < value.length) {
                value[leap] = length;
            }
        }

        int answer(int law, int[] vars) {
            int at = start[law];
            int height = 0;
            // Leaps go onwards alone, so that no step is gone through twice.
            for (int steps = 0; steps < length && at < length; steps++) {
                int what = step[at];
                int with = value[at];
                at++;
                if (what == PUSH || what == LOOK) {
                    if (height >= stack.length || (what == LOOK && with >= vars.length)) {
                        return 0;
                    }
                    stack[height] = what == PUSH ? with : vars[with];
                    height++;
                    continue;
                }
                if (what == ANSWER) {
                    return height > 0 ? stack[height - 1] : 0;
                }
                if (height < 2) {
                    return 0;
                }
                height--;
                int by = stack[height];
                int number = stack[height - 1];
                switch (what) {
                    case UNLESS_LESS:
                        height--;
                        at = number < by ? at : with;
                        break;
                    case PLUS:
                        stack[height - 1] = number + by;
                        break;
                    case MINUS:
                        stack[height - 1] = number - by;
                        break;
                    case TIMES:
                        stack[height - 1] = number * by;
                        break;
                    default:
                        if (by == 0) {
                            return 0;
                        }
                        stack[height - 1] = number / by;
                        break;
                }
            }
            return 0;
        }
    }

    /** What a text tells, as it stands at first. */
    private static final class Land {
        int people = 0;
        int plots = 0;
        int witnesses = 0;
        int givings = 0;
        int needs = 1;
        int seed = 0;
        final int[] across = new int[MOST_PLOTS];
        final int[] down = new int[MOST_PLOTS];
        final int[] first = new int[MOST_PLOTS];
        final int[] age = new int[MOST_WITNESSES];
        final int[] memory = new int[MOST_WITNESSES];
        final Givings told = new Givings();
        final Laws laws = new Laws();
        private final long[] name = new long[MOST_NAMES];
        private final int[] sortAt = new int[MOST_NAMES];
        private final int[] numberAt = new int[MOST_NAMES];
        private int names = 0;

        Land() {
            laws.clear();
        }

        void clear() {
            people = 0;
            plots = 0;
            witnesses = 0;
            givings = 0;
            needs = 1;
            seed = 0;
            names = 0;
            laws.clear();
        }

        void addName(long packed, int sort, int number) {
            if (names < name.length) {
                name[names] = packed;
                sortAt[names] = sort;
                numberAt[names] = number;
                names++;
            }
        }

        int rowOfName(long packed) {
            for (int row = 0; row < names; row++) {
                if (name[row] == packed) {
                    return row;
                }
            }
            return NONE;
        }

        int numberOfName(long packed, int sort) {
            int row = rowOfName(packed);
            if (row == NONE || sortAt[row] != sort) {
                return NONE;
            }
            return numberAt[row];
        }
    }

    /** GIVINGS, a row each; how many of them there are, a Moment tells. */
    private static final class Givings {
        final int[] plot = new int[MOST_GIVINGS];
        final int[] from = new int[MOST_GIVINGS];
        final int[] to = new int[MOST_GIVINGS];
        // The year in which it was; one of old was in a year below 0.
        final int[] begun = new int[MOST_GIVINGS];
        final int[] before = new int[MOST_GIVINGS];

        void put(int row, int ofPlot, int giver, int getter, int inYear, int witnesses) {
            if (row >= 0 && row < MOST_GIVINGS) {
                plot[row] = ofPlot;
                from[row] = giver;
                to[row] = getter;
                begun[row] = inYear;
                before[row] = witnesses;
            }
        }

        void become(Givings other) {
            System.arraycopy(other.plot, 0, plot, 0, MOST_GIVINGS);
            System.arraycopy(other.from, 0, from, 0, MOST_GIVINGS);
            System.arraycopy(other.to, 0, to, 0, MOST_GIVINGS);
            System.arraycopy(other.begun, 0, begun, 0, MOST_GIVINGS);
            System.arraycopy(other.before, 0, before, 0, MOST_GIVINGS);
        }

        int ofPlot(int which, int many) {
            int set = 0;
            for (int row = 0; row < many && row < MOST_GIVINGS; row++) {
                if (plot[row] == which) {
                    set |= 1 << row;
                }
            }
            return set;
        }
    }

    /** What changes as things go on, but for the rows of the GIVINGS, which only grow. */
    private static final class Moment {
        int year = 0;
        int alive = 0;
        int unsaid = 0;
        int givings = 0;
        final int[] age = new int[MOST_WITNESSES];

        void begin(Land land) {
            year = 0;
            alive = (1 << land.witnesses) - 1;
            unsaid = 0;
            givings = land.givings;
            System.arraycopy(land.age, 0, age, 0, MOST_WITNESSES);
        }

        void become(Moment other) {
            year = other.year;
            alive = other.alive;
            unsaid = other.unsaid;
            givings = other.givings;
            System.arraycopy(other.age, 0, age, 0, MOST_WITNESSES);
        }
    }

    /** What the LAWS tell of a Moment: who swears, what stands and counts, whose a plot is, who dies. */
    private static final class Court {
        private final Givings givings;
        Land land;
        // A row for each LAW: a VAR that is not told for it stays 0 there.
        private final int[] swearVars = new int[VARS];
        private final int[] dieVars = new int[VARS];
        private final int[] walkVars = new int[VARS];
        private final int[] askVars = new int[VARS];
        final int[] plotsOf = new int[MOST_PEOPLE];

        Court(Givings givings, Land land) {
            this.givings = givings;
            this.land = land;
        }

        /** Those of the asked who are alive and swear to a GIVING so long ago, seen by so many. */
        int swearersOf(Moment moment, int asked, int since, int seen) {
            int set = 0;
            for (int witness = 0; witness < land.witnesses; witness++) {
                int bit = 1 << witness;
                if ((asked & moment.alive & bit) != 0) {
                    swearVars[AGE] = moment.age[witness];
                    swearVars[MEMORY] = land.memory[witness];
                    swearVars[SINCE] = since;
                    swearVars[YEAR] = moment.year;
                    swearVars[WHICH] = witness;
                    swearVars[SEEN] = seen;
                    if (land.laws.answer(LAW_OF_SWEARING, swearVars) > 0) {
                        set |= bit;
                    }
                }
            }
            return set;
        }

        int swearers(Moment moment, int giving, int asked) {
            int before = givings.before[giving];
            int since = moment.year - givings.begun[giving];
            return swearersOf(moment, before & asked, since, Integer.bitCount(before));
        }

        int howManySwear(Moment moment, int giving) {
            return Integer.bitCount(swearers(moment, giving, givings.before[giving]));
        }

        /** The GIVINGS to which a WITNESS swears. */
        int swornToBy(Moment moment, int witness) {
            int set = 0;
            for (int giving = 0; giving < moment.givings; giving++) {
                if (swearers(moment, giving, 1 << witness) != 0) {
                    set |= 1 << giving;
                }
            }
            return set;
        }

        boolean stands(Moment moment, int giving) {
            if (((moment.unsaid >> giving) & 1) != 0) {
                return false;
            }
            return Integer.bitCount(swearers(moment, giving, givings.before[giving])) >= land.needs;
        }

        int standing(Moment moment) {
            int set = 0;
            for (int giving = 0; giving < moment.givings; giving++) {
                if (stands(moment, giving)) {
                    set |= 1 << giving;
                }
            }
            return set;
        }

        /** The GIVINGS of a plot that count. */
        int counting(Moment moment, int plot) {
            int set = 0;
            int owner = land.first[plot];
            for (int giving = 0; giving < moment.givings; giving++) {
                if (givings.plot[giving] == plot && givings.from[giving] == owner && stands(moment, giving)) {
                    owner = givings.to[giving];
                    set |= 1 << giving;
                }
            }
            return set;
        }

        int countingOfAll(Moment moment) {
            int set = 0;
            for (int plot = 0; plot < land.plots; plot++) {
                set |= counting(moment, plot);
            }
            return set;
        }

        int owner(Moment moment, int plot) {
            int owner = land.first[plot];
            for (int giving = 0; giving < moment.givings; giving++) {
                if (givings.plot[giving] == plot && givings.from[giving] == owner && stands(moment, giving)) {
                    owner = givings.to[giving];
                }
            }
            return owner;
        }

        /** Whose a plot would be if each GIVING stood that is not unsaid. */
        int ownerByBook(Moment moment, int plot) {
            int owner = land.first[plot];
            for (int giving = 0; giving < moment.givings; giving++) {
                boolean said = ((moment.unsaid >> giving) & 1) == 0;
                if (said && givings.plot[giving] == plot && givings.from[giving] == owner) {
                    owner = givings.to[giving];
                }
            }
            return owner;
        }

        /** How many plots are another one's in one Moment than in the other. */
        int plotsOfOthers(Moment moment, Moment other) {
            int others = 0;
            for (int plot = 0; plot < land.plots; plot++) {
                if (owner(moment, plot) != owner(other, plot)) {
                    others++;
                }
            }
            return others;
        }

        void countPlots(Moment moment) {
            Arrays.fill(plotsOf, 0);
            for (int plot = 0; plot < land.plots; plot++) {
                int owner = owner(moment, plot);
                if (owner >= 0 && owner < plotsOf.length) {
                    plotsOf[owner]++;
                }
            }
        }

        int deathIn100(Moment moment, int witness) {
            dieVars[AGE] = moment.age[witness];
            dieVars[MEMORY] = land.memory[witness];
            dieVars[YEAR] = moment.year;
            dieVars[WHICH] = witness;
            return heldTo(100, land.laws.answer(LAW_OF_DYING, dieVars));
        }

        void passYear(Moment moment, int seed) {
            for (int witness = 0; witness < land.witnesses; witness++) {
                int bit = 1 << witness;
                if ((moment.alive & bit) != 0) {
                    int chance = deathIn100(moment, witness);
                    if (chance > 0 && lotOf100(seed, 8 * moment.year + witness) < chance) {
                        moment.alive &= ~bit;
                    }
                }
            }
            passQuietYear(moment);
        }

        /** A YEAR in which nobody dies. */
        void passQuietYear(Moment moment) {
            for (int witness = 0; witness < land.witnesses; witness++) {
                if (((moment.alive >> witness) & 1) != 0) {
                    moment.age[witness] = Math.min(moment.age[witness] + 1, OLDEST);
                }
            }
            moment.year++;
        }

        void passYears(Moment moment, int n, int seed) {
            for (int years = 0; years < n; years++) {
                passYear(moment, seed);
            }
        }

        int walking(Moment moment, int plot, int to) {
            walkVars[YEAR] = moment.year;
            walkVars[FAR] = Math.abs(land.across[plot] - land.across[to])
                    + Math.abs(land.down[plot] - land.down[to]);
            walkVars[ACROSS] = land.across[to];
            walkVars[DOWN] = land.down[to];
            return heldTo(99, land.laws.answer(LAW_OF_WALKING, walkVars));
        }

        int asking(Moment moment, int plot) {
            askVars[YEAR] = moment.year;
            askVars[ACROSS] = land.across[plot];
            askVars[DOWN] = land.down[plot];
            return heldTo(99, land.laws.answer(LAW_OF_ASKING, askVars));
        }

        private static int heldTo(int most, int number) {
            return Math.max(0, Math.min(most, number));
        }

        private static int lotOf100(int seed, int which) {
            int h = stirred(stirred(seed, 117), which);
            return (h >>> 1) % 100;
        }

        private static int stirred(int h, int with) {
            int next = (h ^ with) * 1103515245 + 12345;
            return next ^ (next >>> 15);
        }
    }

    /** How soon turfs are cut, one plot behind the other. */
    private static final class Rounds {
        private final int[] walk = new int[MOST_PLOTS * MOST_PLOTS];
        private final int[] ask = new int[MOST_PLOTS];
        // The shortest walk from a plot through all of a set of others, at set * MOST_PLOTS + plot.
        private final int[] through = new int[SETS_OF_PLOTS * MOST_PLOTS];

        void measure(Court court, Moment moment, int set) {
            for (int plot = 0; plot < MOST_PLOTS; plot++) {
                if (isIn(set, plot)) {
                    ask[plot] = court.asking(moment, plot);
                    for (int to = 0; to < MOST_PLOTS; to++) {
                        if (isIn(set, to)) {
                            walk[plot * MOST_PLOTS + to] = court.walking(moment, plot, to);
                        }
                    }
                }
            }
            for (int others = 0; others <= set && others < SETS_OF_PLOTS; others++) {
                if ((others & ~set) == 0) {
                    findThrough(set, others);
                }
            }
        }

        private void findThrough(int set, int others) {
            for (int plot = 0; plot < MOST_PLOTS; plot++) {
                if (isIn(set & ~others, plot)) {
                    int next = nextPlot(plot, others);
                    through[others * MOST_PLOTS + plot] = next == NONE ? 0 : lengthBy(plot, next, others);
                }
            }
        }

        private static boolean isIn(int set, int plot) {
            return ((set >> plot) & 1) != 0;
        }

        /** How far it is from a plot through all others, if one of them is the next. */
        private int lengthBy(int plot, int next, int others) {
            int rest = others & ~(1 << next);
            return walk[plot * MOST_PLOTS + next] + through[rest * MOST_PLOTS + next];
        }

        /** The first of the others with which, as the next one, it is shortest; NONE without others. */
        private int nextPlot(int plot, int others) {
            int best = NONE;
            int shortest = 0;
            for (int next = 0; next < MOST_PLOTS; next++) {
                if (isIn(others, next)) {
                    int length = lengthBy(plot, next, others);
                    if (best == NONE || length < shortest) {
                        best = next;
                        shortest = length;
                    }
                }
            }
            return best;
        }

        private int firstPlot(int set) {
            int best = NONE;
            int shortest = 0;
            for (int plot = 0; plot < MOST_PLOTS; plot++) {
                if (isIn(set, plot)) {
                    int length = through[(set & ~(1 << plot)) * MOST_PLOTS + plot];
                    if (best == NONE || length < shortest) {
                        best = plot;
                        shortest = length;
                    }
                }
            }
            return best;
        }

        private int askOfAll(int set) {
            int all = 0;
            for (int plot = 0; plot < MOST_PLOTS; plot++) {
                if (isIn(set, plot)) {
                    all += ask[plot];
                }
            }
            return all;
        }

        int shortest(int set) {
            int first = firstPlot(set);
            if (first == NONE) {
                return 0;
            }
            return askOfAll(set) + through[(set & ~(1 << first)) * MOST_PLOTS + first];
        }

        int plotAt(int set, int i) {
            int plot = firstPlot(set);
            int others = set;
            for (int step = 0; step < i && plot != NONE; step++) {
                others &= ~(1 << plot);
                plot = nextPlot(plot, others);
            }
            return plot;
        }

        int mostFrom(int plot, int all, int time) {
            int most = 0;
            for (int others = 0; others <= all && others < SETS_OF_PLOTS; others++) {
                if (!isIn(others, plot)) {
                    int takes = ask[plot] + askOfAll(others) + through[others * MOST_PLOTS + plot];
                    if (takes <= time) {
                        most = Math.max(most, 1 + Integer.bitCount(others));
                    }
                }
            }
            return most;
        }
    }

    /** What was: the Moments ahead of the last things done, and what the SLOTS hold. */
    private static final class Past {
        private final Moment[] done = new Moment[MOST_UNDONE];
        private int next = 0;
        int size = 0;
        private final Moment[] heldMoment = new Moment[SLOTS];
        private final Givings[] heldGivings = new Givings[SLOTS];
        int slotsHeld = 0;

        Past() {
            for (int i = 0; i < MOST_UNDONE; i++) {
                done[i] = new Moment();
            }
            for (int slot = 0; slot < SLOTS; slot++) {
                heldMoment[slot] = new Moment();
                heldGivings[slot] = new Givings();
            }
        }

        void forgetAll() {
            size = 0;
            slotsHeld = 0;
        }

        /** Keeps the Moment ahead of a thing done, in place of the oldest one if there is no room. */
        void keep(Moment moment) {
            done[next].become(moment);
            next = next + 1 < MOST_UNDONE ? next + 1 : 0;
            size = Math.min(size + 1, MOST_UNDONE);
        }

        /** A GIVING by hand that is undone is the last one, so that its row needs no care. */
        boolean takeBack(Moment now) {
            if (size == 0) {
                return false;
            }
            next = next > 0 ? next - 1 : MOST_UNDONE - 1;
            now.become(done[next]);
            size--;
            return true;
        }

        void holdIn(int slot, Moment now, Givings givings) {
            heldMoment[slot].become(now);
            heldGivings[slot].become(givings);
            slotsHeld |= 1 << slot;
        }

        boolean goOnFrom(int slot, Moment now, Givings givings) {
            if (((slotsHeld >> slot) & 1) == 0) {
                return false;
            }
            now.become(heldMoment[slot]);
            givings.become(heldGivings[slot]);
            size = 0;
            return true;
        }
    }
}
