import java.util.Arrays;

/** Who must swear in suits of claims, by laws that are read from texts, and what each swearing or refusing comes to. */
public final class WhoMustSwear {
    public static final int NONE = -1, BAD = -2, STATE = -3, FULL = -4;
    public static final long NO = Long.MIN_VALUE;

    private static final int NOTHING = -11, CAST = -12, PLACE = -13, SIZE = -14;
    private static final int NOT_SO = -5, TOO_MANY = -9, FAULTY = -10, CUT_SHORT = 100;

    private static final int PERSONS = 8, MOST_BITS = 31;
    private static final int MOST_SUITS = 5, MOST_CLAIMS = 24, MOST_OF_SUIT = 6, MOST_ANSWERED = 4;
    private static final int MOST_SUM = 99, MOST_SORT = 2, MOST_WITNESSES = 3;
    private static final int MOST_LAWS = 6, MOST_CLAUSES = 8, MOST_TEXT = 100, MOST_WITHIN = 4;
    private static final int TAPES = 6, MOST_ITEMS = 60;

    private static final int NOTHING_OPEN = 0, FREED = 1, BOUND = 2, DUE = 3, ROLLED = 4, LET_LIE = 5;
    private static final int DEFENDANT = 0, PLAINTIFF = 1, NOBODY = 2;

    private static final int FREE_IF = 0, BIND_IF = 1, OATH_IF = 2, BAR_IF = 3, LOSE_SHARE = 4, BOTH_SHARE = 5;
    private static final int OVER_IF = 6, ROLL_IF = 7, LEAST_OPEN = 8, WORDS = 9, LONGEST_WORD = 5;

    private static final int ANSWERS = 5, NOT_KNOWN_ANSWER = 4;

    private static final int OATH = 0, PART = 1, ONE = 2, GUARD = 3, HEIR = 4, CUSTOM = 5, TURNED = 6, KINDS = 7;
    private static final int SWEARS = 0, FREES = 1, TAKES = 2, ACTS = 3;
    private static final int[] ABOVE = {-1, OATH, PART, OATH, GUARD, OATH, OATH};

    private static final int BYTES = 0, SHORTS = 1, INTS = 2, BOOLEANS = 4, EMPTY = -1;

    private final int[] knownOf = new int[PERSONS];
    private final int[] knownOfImage = new int[PERSONS];
    private final Suit[] suits = new Suit[MOST_SUITS];
    private final Claim[] claims = new Claim[MOST_CLAIMS];
    private final Claim[] claimsOfImage = new Claim[MOST_CLAIMS];
    private final Law[] laws = new Law[MOST_LAWS];
    private final Tape[] tapes = new Tape[TAPES];
    private final LawReader reader = new LawReader();
    private final Hearing hearing = new Hearing();
    private final Hearing otherHearing = new Hearing();
    private final Deeds deeds = new Deeds();
    private int suitCount, claimCount, lawCount, imageCount;
    private boolean imageTaken;

    public WhoMustSwear() {
        for (int k = 0; k < MOST_SUITS; k++) {
            suits[k] = new Suit();
        }
        for (int k = 0; k < MOST_CLAIMS; k++) {
            claims[k] = new Claim();
            claimsOfImage[k] = new Claim();
        }
        for (int k = 0; k < MOST_LAWS; k++) {
            laws[k] = new Law();
        }
        for (int k = 0; k < TAPES; k++) {
            tapes[k] = new Tape();
        }
    }

    // ---- persons, suits, claims

    public int known(int person, int bits) {
        if (!isPerson(person)) {
            return NONE;
        }
        if (bits < 0 || bits > MOST_BITS) {
            return BAD;
        }
        int before = knownOf[person];
        knownOf[person] = bits;
        return before;
    }

    public int suit(int plaintiff, int defendant, int law) {
        if (!isPerson(plaintiff) || !isPerson(defendant) || !isLaw(law)) {
            return NONE;
        }
        if (plaintiff == defendant) {
            return BAD;
        }
        if (suitCount >= MOST_SUITS) {
            return FULL;
        }
        Suit made = suits[suitCount];
        made.plaintiff = plaintiff;
        made.defendant = defendant;
        made.law = law;
        suitCount++;
        return suitCount - 1;
    }

    public int claim(int suit, int sum, int sort) {
        if (!isSuit(suit)) {
            return NONE;
        }
        if (sum < 1 || sum > MOST_SUM || sort < 0 || sort > MOST_SORT) {
            return BAD;
        }
        if (claimCount >= MOST_CLAIMS || claimsOfSuit(suit) >= MOST_OF_SUIT) {
            return FULL;
        }
        claims[claimCount].begin(suit, sum, sort);
        claimCount++;
        return claimCount - 1;
    }

    public int answer(int claim, int n, boolean so) {
        if (!isClaim(claim)) {
            return NONE;
        }
        Claim told = claims[claim];
        if (n < 0 || n > told.sum) {
            return BAD;
        }
        int before = told.admitted;
        told.admitted = n;
        told.sure = so ? 1 : 0;
        return before;
    }

    public int proof(int claim, int what, int n) {
        if (!isClaim(claim) || what < 0 || what > 3) {
            return NONE;
        }
        int most = what == 0 ? MOST_WITNESSES : 1;
        if (n < 0 || n > most) {
            return BAD;
        }
        return claims[claim].prove(what, n);
    }

    public int truth(int claim, int n) {
        if (!isClaim(claim)) {
            return NONE;
        }
        if (n < 0 || n > MOST_SUM) {
            return BAD;
        }
        int before = claims[claim].owed;
        claims[claim].owed = n;
        return before;
    }

    public int of(int claim, int what) {
        return isClaim(claim) ? claims[claim].told(what) : NONE;
    }

    // ---- laws

    public int feed(int bytes, int n) {
        if (n < 0 || n > 4) {
            return BAD;
        }
        if (reader.length + n > MOST_TEXT) {
            return FULL;
        }
        for (int k = n - 1; k >= 0; k--) {
            reader.put(bytes >>> (8 * k) & 255);
        }
        return reader.length;
    }

    public int law() {
        if (lawCount >= MOST_LAWS) {
            return FULL;
        }
        boolean whole = reader.readInto(laws[lawCount]);
        reader.length = 0;
        if (!whole) {
            return FAULTY - reader.at;
        }
        lawCount++;
        return lawCount - 1;
    }

    public int comes(int claim) {
        if (!isClaim(claim)) {
            return NONE;
        }
        int suit = claims[claim].suit;
        hear(hearing, suit, suits[suit].law);
        return hearing.comesOf(claim);
    }

    public int due(int claim, int what) {
        if (!isClaim(claim) || what < 0 || what > 2) {
            return NONE;
        }
        int suit = claims[claim].suit;
        hear(hearing, suit, suits[suit].law);
        Standing found = hearing.standingOfNumber(claim);
        if (found == null || !found.hasOath()) {
            return NOT_SO;
        }
        if (what == 0) {
            return found.kind;
        }
        return what == 1 ? found.clause : found.who;
    }

    // ---- paid

    public long paid(int claim, boolean so, int part) {
        if (!isClaim(claim) || !isPart(part)) {
            return NO;
        }
        int suit = claims[claim].suit;
        hear(hearing, suit, suits[suit].law);
        Standing found = hearing.standingOfNumber(claim);
        if (found == null) {
            return NO;
        }
        return lowest(hearing.paidWhen(found, so, true), hearing.below(), part);
    }

    public long all(int suit, int choices, int part) {
        if (!isSuit(suit) || !isPart(part)) {
            return NO;
        }
        if (choices < 0 || choices >= 1 << claimsOfSuit(suit)) {
            return NO;
        }
        hear(hearing, suit, suits[suit].law);
        return lowest(hearing.paidBy(choices), hearing.below(), part);
    }

    public long ends(int suit, int what, int part) {
        if (!isSuit(suit) || what < 0 || what > 2 || !isPart(part)) {
            return NO;
        }
        hear(hearing, suit, suits[suit].law);
        long above = what == 2 ? hearing.paidInTruth() : hearing.paidAtEnd(what == 1);
        return lowest(above, hearing.below(), part);
    }

    public int truly(int suit) {
        if (!isSuit(suit)) {
            return NONE;
        }
        hear(hearing, suit, suits[suit].law);
        return hearing.choicesInTruth();
    }

    public int rolled(int suit, int what) {
        if (!isSuit(suit) || what < 0 || what > 1) {
            return NONE;
        }
        hear(hearing, suit, suits[suit].law);
        int many = hearing.howManyRolled();
        if (what == 1) {
            return many;
        }
        return many == 0 ? NOT_SO : hearing.numberRolledOnto();
    }

    // ---- answers, sums

    public int best(int suit, int i) {
        if (!isSuit(suit)) {
            return NONE;
        }
        int many = claimsOfSuit(suit);
        if (many > MOST_ANSWERED) {
            return TOO_MANY;
        }
        if (i < -1 || i >= many) {
            return NONE;
        }
        hear(hearing, suit, suits[suit].law);
        hearing.seekBest();
        return i < 0 ? hearing.bestOaths : hearing.answerIn(hearing.bestRow, i);
    }

    public int slips(int suit) {
        if (!isSuit(suit)) {
            return NONE;
        }
        if (claimsOfSuit(suit) > MOST_ANSWERED) {
            return TOO_MANY;
        }
        hear(hearing, suit, suits[suit].law);
        hearing.seekBest();
        return hearing.oathlessRows();
    }

    public int wise(int claim) {
        if (!isClaim(claim)) {
            return NONE;
        }
        int suit = claims[claim].suit;
        hear(hearing, suit, suits[suit].law);
        int wisest = 1;
        long most = -1;
        for (int sum = 1; sum <= MOST_SUM; sum++) {
            hearing.claimInstead(claim, claims[claim], sum);
            long above = hearing.paidInTruth();
            if (above > most) {
                most = above;
                wisest = sum;
            }
        }
        return wisest;
    }

    // ---- two suits, two laws

    public long off(int first, int second, int part) {
        if (!isSuit(first) || !isSuit(second) || !isPart(part)) {
            return NO;
        }
        Suit one = suits[first];
        Suit other = suits[second];
        if (one.plaintiff != other.defendant || one.defendant != other.plaintiff) {
            return NO + 1;
        }
        hear(hearing, first, one.law);
        hear(otherHearing, second, other.law);
        long above = hearing.paidInTruth() * otherHearing.below() - otherHearing.paidInTruth() * hearing.below();
        return lowest(above, hearing.below() * otherHearing.below(), part);
    }

    public int beside(int claim, int one, int other) {
        if (!isClaim(claim) || !isLaw(one) || !isLaw(other)) {
            return NONE;
        }
        hear(hearing, claims[claim].suit, one);
        hear(otherHearing, claims[claim].suit, other);
        return hearing.comesOf(claim) * 10 + otherHearing.comesOf(claim);
    }

    public int ways(int claim, int one, int other) {
        if (!isClaim(claim) || !isLaw(one) || !isLaw(other)) {
            return NONE;
        }
        hear(hearing, claims[claim].suit, one);
        hear(otherHearing, claims[claim].suit, other);
        for (int sum = 1; sum <= MOST_SUM; sum++) {
            hearing.claimInstead(claim, claims[claim], sum);
            otherHearing.claimInstead(claim, claims[claim], sum);
            if (hearing.comesOf(claim) != otherHearing.comesOf(claim)) {
                return sum;
            }
        }
        return NOT_SO;
    }

    // ---- judging, acts, tapes

    public int judge(int tape, int i, int suit) {
        if (!isTape(tape) || !isSuit(suit)) {
            return NONE;
        }
        Tape row = tapes[tape];
        if (row.sort != EMPTY && row.sort != BYTES) {
            return CAST;
        }
        hear(hearing, suit, suits[suit].law);
        for (int k = 0; k < hearing.size; k++) {
            long place = (long) i + k;
            if (!row.holdsPlace(place)) {
                return CUT_SHORT + k;
            }
            if (row.items[(int) place] != hearing.standings[k].comesTo) {
                return k;
            }
        }
        return NOT_SO;
    }

    public int image() {
        copyClaims(claims, claimsOfImage, claimCount);
        System.arraycopy(knownOf, 0, knownOfImage, 0, PERSONS);
        imageCount = claimCount;
        imageTaken = true;
        return claimCount;
    }

    public int undo() {
        if (!imageTaken) {
            return STATE;
        }
        copyClaims(claimsOfImage, claims, imageCount);
        System.arraycopy(knownOfImage, 0, knownOf, 0, PERSONS);
        claimCount = imageCount;
        return claimCount;
    }

    public int act(int kind, int act, int x) {
        deeds.begin(claimCount, suitCount);
        if (!isKind(kind) || act < 0 || act >= ACTS) {
            return 0;
        }
        return deeds.does(kind, act, x);
    }

    public int trace(int i) {
        return deeds.bodyAt(i);
    }

    public int taken(int kind, int k) {
        if (!isKind(k)) {
            return BAD;
        }
        if (!isKind(kind)) {
            return NOTHING;
        }
        int above = kind;
        for (int step = 0; step < KINDS && above >= 0; step++) {
            if (above == k) {
                return kind;
            }
            above = ABOVE[above];
        }
        return CAST;
    }

    public int count(int what) {
        switch (what) {
            case 0:
                return suitCount;
            case 1:
                return claimCount;
            case 2:
                return lawCount;
            case 3:
                return reader.length;
            case 4:
                return deeds.ran;
            default:
                return BAD;
        }
    }

    public int tape(int tape, int sort, int n) {
        if (!isTape(tape)) {
            return NONE;
        }
        if (sort < EMPTY || sort > BOOLEANS) {
            return BAD;
        }
        if (sort != EMPTY && n > MOST_ITEMS) {
            return BAD;
        }
        if (sort != EMPTY && n < 0) {
            return SIZE;
        }
        tapes[tape].become(sort, sort == EMPTY ? 0 : n);
        return 1;
    }

    public int item(int tape, int i, long v) {
        if (!isTape(tape)) {
            return NONE;
        }
        Tape row = tapes[tape];
        if (row.sort == EMPTY) {
            return NOTHING;
        }
        if (!row.holdsPlace(i)) {
            return PLACE;
        }
        row.items[i] = row.cut(v);
        return 1;
    }

    public long read(int tape, int i) {
        if (!isTape(tape) || !tapes[tape].holdsPlace(i)) {
            return NO;
        }
        return tapes[tape].items[i];
    }

    public int shift(int tape, int i, int other, int j, int n) {
        if (!isTape(tape) || !isTape(other)) {
            return NONE;
        }
        Tape from = tapes[tape];
        Tape to = tapes[other];
        if (from.sort == EMPTY || to.sort == EMPTY) {
            return NOTHING;
        }
        if (from.sort != to.sort) {
            return CAST;
        }
        if (!from.holdsRun(i, n) || !to.holdsRun(j, n)) {
            return PLACE;
        }
        System.arraycopy(from.items, i, to.items, j, n);
        return n;
    }

    // ---- what numbers there are

    private static boolean isPerson(int person) {
        return person >= 0 && person < PERSONS;
    }

    private static boolean isKind(int kind) {
        return kind >= 0 && kind < KINDS;
    }

    private static boolean isTape(int tape) {
        return tape >= 0 && tape < TAPES;
    }

    private static boolean isPart(int part) {
        return part == 0 || part == 1;
    }

    private boolean isSuit(int suit) {
        return suit >= 0 && suit < suitCount;
    }

    private boolean isClaim(int claim) {
        return claim >= 0 && claim < claimCount;
    }

    private boolean isLaw(int law) {
        return law >= 0 && law < lawCount;
    }

    private int claimsOfSuit(int suit) {
        int many = 0;
        for (int k = 0; k < claimCount; k++) {
            if (claims[k].suit == suit) {
                many++;
            }
        }
        return many;
    }

    // ---- hearing a suit

    private void hear(Hearing heard, int suit, int law) {
        heard.open(laws[law], knownOf[suits[suit].plaintiff], knownOf[suits[suit].defendant]);
        for (int k = 0; k < claimCount; k++) {
            if (claims[k].suit == suit) {
                heard.bring(k, claims[k]);
            }
        }
        heard.settle();
    }

    private static void copyClaims(Claim[] from, Claim[] to, int many) {
        for (int k = 0; k < many && k < MOST_CLAIMS; k++) {
            to[k].copy(from[k]);
        }
    }

    private static long lowest(long above, long below, int part) {
        long common = commonDivisor(Math.abs(above), below);
        if (common == 0) {
            return NO;
        }
        return (part == 0 ? above : below) / common;
    }

    private static long commonDivisor(long one, long other) {
        long larger = one;
        long smaller = other;
        for (int k = 0; k < 1000 && smaller != 0; k++) {
            long rest = larger % smaller;
            larger = smaller;
            smaller = rest;
        }
        return larger;
    }

    private static final class Suit {
        int plaintiff, defendant, law;

        Suit() {
        }
    }

    private static final class Claim {
        int suit, sum, sort, admitted, sure, witnesses, paper, book, held, owed;

        Claim() {
        }

        void begin(int itsSuit, int itsSum, int itsSort) {
            suit = itsSuit;
            sum = itsSum;
            sort = itsSort;
            admitted = 0;
            sure = 1;
            witnesses = 0;
            paper = 0;
            book = 0;
            held = 0;
            owed = 0;
        }

        void copy(Claim other) {
            suit = other.suit;
            sum = other.sum;
            sort = other.sort;
            admitted = other.admitted;
            sure = other.sure;
            witnesses = other.witnesses;
            paper = other.paper;
            book = other.book;
            held = other.held;
            owed = other.owed;
        }

        int prove(int what, int n) {
            int before = told(5 + what);
            switch (what) {
                case 0:
                    witnesses = n;
                    break;
                case 1:
                    paper = n;
                    break;
                case 2:
                    book = n;
                    break;
                default:
                    held = n;
                    break;
            }
            return before;
        }

        int told(int what) {
            switch (what) {
                case 0:
                    return suit;
                case 1:
                    return sum;
                case 2:
                    return sort;
                case 3:
                    return admitted;
                case 4:
                    return sure;
                case 5:
                    return witnesses;
                case 6:
                    return paper;
                case 7:
                    return book;
                case 8:
                    return held;
                case 9:
                    return owed;
                default:
                    return NONE;
            }
        }

        /** The letter by its place in LawReader.LETTERS; bits: what is known of the one who would swear. */
        int valueOf(int letter, int bits) {
            switch (letter) {
                case 0:
                    return sum;
                case 1:
                    return admitted;
                case 2:
                    return sum - admitted;
                case 3:
                    return witnesses;
                case 4:
                    return sort;
                case 5:
                    return 1 - sure;
                case 6:
                    return paper;
                case 7:
                    return book;
                case 8:
                    return held;
                default:
                    return bits;
            }
        }

        /** Answers 1 to 3 admit something, so the claim is known by them. */
        void answerAs(int way) {
            sure = way == NOT_KNOWN_ANSWER ? 0 : 1;
            switch (way) {
                case 1:
                    admitted = sum;
                    break;
                case 2:
                    admitted = Math.min(owed, sum);
                    break;
                case 3:
                    admitted = sum / 2;
                    break;
                default:
                    admitted = 0;
                    break;
            }
        }
    }

    /** A law's tests stand in steps behind their operands' (a test, or NOT, AND, OR), so that they run without recursion. */
    private static final class Law {
        static final int NOT = -1, AND = -2, OR = -3;

        final int[] sorts = new int[MOST_CLAUSES];
        final int[] kinds = new int[MOST_CLAUSES];
        final int[] starts = new int[MOST_CLAUSES];
        final int[] stops = new int[MOST_CLAUSES];
        final int[] steps = new int[MOST_TEXT];
        int clauses, stepCount;
        int loseAbove, loseBelow, bothAbove, bothBelow, least;

        Law() {
        }

        void clear() {
            clauses = 0;
            stepCount = 0;
            loseAbove = 1;
            loseBelow = 1;
            bothAbove = 0;
            bothBelow = 1;
            least = 0;
        }

        void beginClause(int sort, int kind) {
            if (clauses >= MOST_CLAUSES) {
                return;
            }
            sorts[clauses] = sort;
            kinds[clauses] = kind;
            starts[clauses] = stepCount;
            stops[clauses] = stepCount;
            clauses++;
        }

        void addStep(int step) {
            if (stepCount >= MOST_TEXT || clauses < 1) {
                return;
            }
            steps[stepCount] = step;
            stepCount++;
            stops[clauses - 1] = stepCount;
        }

        void addTest(int letter, int sign, int number) {
            addStep((letter * 3 + sign) * 100 + number);
        }

        /** The clauses whose tests hold, as bits. */
        int holding(Claim claim, int bits) {
            int found = 0;
            for (int k = 0; k < clauses; k++) {
                if (holds(k, claim, bits)) {
                    found |= 1 << k;
                }
            }
            return found;
        }

        boolean hasAmong(int sort, int found) {
            for (int k = 0; k < clauses; k++) {
                if (sorts[k] == sort && (found >> k & 1) == 1) {
                    return true;
                }
            }
            return false;
        }

        int firstOathAmong(int byPlaintiff, int byDefendant) {
            for (int k = 0; k < clauses; k++) {
                int found = kinds[k] == TURNED ? byPlaintiff : byDefendant;
                if (sorts[k] == OATH_IF && (found >> k & 1) == 1) {
                    return k;
                }
            }
            return -1;
        }

        /** The stack is the bits of a number: brackets are few, so never more than some ten wait on it. */
        private boolean holds(int clause, Claim claim, int bits) {
            long stack = 0;
            for (int k = starts[clause]; k < stops[clause]; k++) {
                int step = steps[k];
                if (step >= 0) {
                    boolean so = passes(claim.valueOf(step / 300, bits), step / 100 % 3, step % 100);
                    stack = stack << 1 | (so ? 1 : 0);
                } else if (step == NOT) {
                    stack ^= 1;
                } else if (step == AND) {
                    stack = stack >>> 1 & (stack | ~1L);
                } else {
                    stack = stack >>> 1 | stack & 1;
                }
            }
            return (stack & 1) == 1;
        }

        private static boolean passes(int value, int sign, int number) {
            if (sign == 0) {
                return value < number;
            }
            return sign == 1 ? value == number : value > number;
        }
    }

    /** Reads on as long as some law begins so: where it stops short is the fault. */
    private static final class LawReader {
        static final String LETTERS = "ayowsuxbhq", SIGNS = "<=>", KIND_LETTERS = "poghct";

        final int[] text = new int[MOST_TEXT];
        int length, at;
        private Law law;

        LawReader() {
        }

        void put(int b) {
            if (length < MOST_TEXT) {
                text[length] = b;
                length++;
            }
        }

        boolean readInto(Law target) {
            law = target;
            law.clear();
            at = 0;
            for (int k = 1; k <= MOST_CLAUSES; k++) {
                if (!readClause()) {
                    return false;
                }
                if (at == length) {
                    return true;
                }
                if (k == MOST_CLAUSES || !pass(';')) {
                    return false;
                }
            }
            return false;
        }

        private boolean readClause() {
            int sort = readWord();
            if (sort < 0 || !pass(' ')) {
                return false;
            }
            if (sort == LOSE_SHARE || sort == BOTH_SHARE) {
                return readShare(sort);
            }
            if (sort == LEAST_OPEN) {
                law.beginClause(sort, 0);
                law.least = readNumber();
                return law.least >= 0;
            }
            int kind = 0;
            if (sort == OATH_IF) {
                kind = 1 + readOneOf(KIND_LETTERS);
                if (kind == 0 || !pass(' ')) {
                    return false;
                }
            }
            law.beginClause(sort, kind);
            return readEither(0);
        }

        private int readWord() {
            int alive = (1 << WORDS) - 1;
            for (int k = 0; k < LONGEST_WORD; k++) {
                int whole = -1;
                for (int w = 0; w < WORDS; w++) {
                    String word = wordOf(w);
                    if (k >= word.length() || word.charAt(k) != here()) {
                        alive &= ~(1 << w);
                    } else if ((alive >> w & 1) == 1 && k + 1 == word.length()) {
                        whole = w;
                    }
                }
                if (alive == 0) {
                    return -1;
                }
                at++;
                if (whole >= 0) {
                    return whole;
                }
            }
            return -1;
        }

        private static String wordOf(int sort) {
            switch (sort) {
                case FREE_IF:
                    return "free";
                case BIND_IF:
                    return "bind";
                case OATH_IF:
                    return "oath";
                case BAR_IF:
                    return "bar";
                case LOSE_SHARE:
                    return "lose";
                case BOTH_SHARE:
                    return "both";
                case OVER_IF:
                    return "over";
                case ROLL_IF:
                    return "roll";
                default:
                    return "least";
            }
        }

        private boolean readShare(int sort) {
            int above = readNumber();
            if (above < 0 || !pass(' ')) {
                return false;
            }
            int below = readDivisor();
            if (below < 1) {
                return false;
            }
            law.beginClause(sort, 0);
            if (sort == LOSE_SHARE) {
                law.loseAbove = above;
                law.loseBelow = below;
            } else {
                law.bothAbove = above;
                law.bothBelow = below;
            }
            return true;
        }

        private int readNumber() {
            if (!isFigure(here())) {
                return -1;
            }
            int number = here() - '0';
            at++;
            if (isFigure(here())) {
                number = number * 10 + here() - '0';
                at++;
            }
            return number;
        }

        /** Behind a first 0 only another figure than 0 goes on. */
        private int readDivisor() {
            if (here() != '0') {
                return readNumber();
            }
            at++;
            if (!isFigure(here()) || here() == '0') {
                return -1;
            }
            int number = here() - '0';
            at++;
            return number;
        }

        /** An & binds its two singles at once, an | only when no & follows. */
        private boolean readEither(int within) {
            boolean behindAnd = false;
            boolean behindOr = false;
            for (int k = 0; k < MOST_TEXT; k++) {
                if (!readSingle(within)) {
                    return false;
                }
                if (behindAnd) {
                    law.addStep(Law.AND);
                }
                behindAnd = pass('&');
                if (behindAnd) {
                    continue;
                }
                if (behindOr) {
                    law.addStep(Law.OR);
                }
                behindOr = pass('|');
                if (!behindOr) {
                    return true;
                }
            }
            return false;
        }

        private boolean readSingle(int within) {
            if (here() != '(' && here() != '!') {
                return readTest();
            }
            if (within >= MOST_WITHIN) {
                return false;
            }
            if (pass('(')) {
                return readEither(within + 1) && pass(')');
            }
            at++;
            if (!readSingle(within + 1)) {
                return false;
            }
            law.addStep(Law.NOT);
            return true;
        }

        private boolean readTest() {
            int letter = readOneOf(LETTERS);
            if (letter < 0) {
                return false;
            }
            int sign = readOneOf(SIGNS);
            if (sign < 0) {
                return false;
            }
            int number = readNumber();
            if (number < 0) {
                return false;
            }
            law.addTest(letter, sign, number);
            return true;
        }

        private int readOneOf(String signs) {
            int place = here() < 0 ? -1 : signs.indexOf((char) here());
            if (place >= 0) {
                at++;
            }
            return place;
        }

        private boolean pass(int b) {
            if (here() != b) {
                return false;
            }
            at++;
            return true;
        }

        private int here() {
            return at >= 0 && at < length && at < MOST_TEXT ? text[at] : -1;
        }

        private static boolean isFigure(int b) {
            return b >= '0' && b <= '9';
        }
    }

    /** What a claim comes to: first alone (ROLLED, if it would be with an oath to roll it on), then in its suit. */
    private static final class Standing {
        int admitted, open;
        boolean defendantCan, plaintiffCan, goesOver;
        int alone, ownClause, ownKind, ownWho, whoIfRolled;
        int comesTo, clause, kind, who;

        Standing() {
        }

        boolean hasOath() {
            return comesTo == DUE || comesTo == ROLLED;
        }

        boolean canBeRolledOnto() {
            return alone == DUE && ownKind != TURNED && ownWho == DEFENDANT;
        }

        void settleWith(Standing onto) {
            comesTo = alone;
            clause = ownClause;
            kind = ownKind;
            who = ownWho;
            if (alone != ROLLED) {
                return;
            }
            if (onto == null) {
                comesTo = LET_LIE;
                return;
            }
            clause = onto.ownClause;
            kind = onto.ownKind;
            who = whoIfRolled;
        }

        boolean swearsInTruth() {
            if (!hasOath() || who == NOBODY) {
                return false;
            }
            if (who == PLAINTIFF) {
                return plaintiffCan;
            }
            return defendantCan || kind == HEIR;
        }
    }

    /**
     * A suit's claims heard by one law. It holds copies, so that what is only asked changes nothing; it is filled
     * anew by each question. All that is paid is counted over the one line that below() tells.
     */
    private static final class Hearing {
        final Standing[] standings = new Standing[MOST_OF_SUIT];
        private final Standing[] own = new Standing[MOST_OF_SUIT];
        private final Standing[] answered = new Standing[MOST_ANSWERED * ANSWERS];
        private final Claim[] brought = new Claim[MOST_OF_SUIT];
        private final int[] numbers = new int[MOST_OF_SUIT];
        private final Claim instead = new Claim();
        private Law law;
        private int ofPlaintiff, ofDefendant, rolledOnto;
        int size, bestRow, bestOaths;
        private long bestAbove;

        Hearing() {
            for (int k = 0; k < MOST_OF_SUIT; k++) {
                own[k] = new Standing();
                standings[k] = own[k];
                brought[k] = new Claim();
            }
            for (int k = 0; k < MOST_ANSWERED * ANSWERS; k++) {
                answered[k] = new Standing();
            }
        }

        void open(Law by, int knownOfPlaintiff, int knownOfDefendant) {
            law = by;
            ofPlaintiff = knownOfPlaintiff;
            ofDefendant = knownOfDefendant;
            size = 0;
        }

        void bring(int number, Claim claim) {
            if (size >= MOST_OF_SUIT) {
                return;
            }
            numbers[size] = number;
            brought[size].copy(claim);
            standings[size] = own[size];
            weigh(claim, own[size]);
            size++;
        }

        void settle() {
            rolledOnto = -1;
            for (int k = size - 1; k >= 0; k--) {
                if (standings[k].canBeRolledOnto()) {
                    rolledOnto = k;
                }
            }
            Standing onto = rolledOnto < 0 ? null : standings[rolledOnto];
            for (int k = 0; k < size; k++) {
                standings[k].settleWith(onto);
            }
        }

        Standing standingOfNumber(int number) {
            int place = placeOf(number);
            return place < 0 ? null : standings[place];
        }

        int comesOf(int number) {
            int place = placeOf(number);
            return place < 0 ? NONE : standings[place].comesTo;
        }

        private int placeOf(int number) {
            for (int k = 0; k < size; k++) {
                if (numbers[k] == number) {
                    return k;
                }
            }
            return -1;
        }

        void claimInstead(int number, Claim claim, int sum) {
            int place = placeOf(number);
            if (place < 0) {
                return;
            }
            instead.copy(claim);
            instead.sum = sum;
            instead.admitted = Math.min(claim.admitted, sum);
            weigh(instead, standings[place]);
            settle();
        }

        private void weigh(Claim claim, Standing into) {
            into.admitted = claim.admitted;
            into.open = claim.sum - claim.admitted;
            into.defendantCan = claim.owed <= claim.admitted;
            into.plaintiffCan = claim.owed >= claim.sum;
            int byPlaintiff = law.holding(claim, ofPlaintiff);
            int byDefendant = law.holding(claim, ofDefendant);
            into.ownClause = law.firstOathAmong(byPlaintiff, byDefendant);
            into.ownKind = into.ownClause < 0 ? OATH : law.kinds[into.ownClause];
            into.alone = comesAlone(into, byDefendant);
            boolean plaintiffMay = !law.hasAmong(BAR_IF, byPlaintiff);
            boolean defendantMay = !law.hasAmong(BAR_IF, byDefendant);
            into.goesOver = plaintiffMay && law.hasAmong(OVER_IF, byPlaintiff);
            into.whoIfRolled = defendantMay ? DEFENDANT : plaintiffMay ? PLAINTIFF : NOBODY;
            into.ownWho = into.whoIfRolled;
            if (into.ownKind == TURNED && plaintiffMay) {
                into.ownWho = PLAINTIFF;
            }
        }

        private int comesAlone(Standing into, int byDefendant) {
            if (into.open == 0) {
                return NOTHING_OPEN;
            }
            if (law.hasAmong(FREE_IF, byDefendant)) {
                return FREED;
            }
            if (law.hasAmong(BIND_IF, byDefendant)) {
                return BOUND;
            }
            if (into.ownClause >= 0 && into.open >= law.least) {
                return DUE;
            }
            return law.hasAmong(ROLL_IF, byDefendant) ? ROLLED : LET_LIE;
        }

        int howManyRolled() {
            int many = 0;
            for (int k = 0; k < size; k++) {
                if (standings[k].comesTo == ROLLED) {
                    many++;
                }
            }
            return many;
        }

        int numberRolledOnto() {
            return rolledOnto < 0 ? NOT_SO : numbers[rolledOnto];
        }

        long below() {
            return (long) law.loseBelow * law.bothBelow;
        }

        /** Then: whether the plaintiff swears, if the defendant refuses and it goes over. */
        long paidWhen(Standing s, boolean swears, boolean then) {
            long open = 0;
            if (s.comesTo == BOUND) {
                open = s.open * below();
            } else if (s.hasOath()) {
                open = openByOath(s, swears, then);
            }
            return s.admitted * below() + open;
        }

        private long openByOath(Standing s, boolean swears, boolean then) {
            if (s.who == NOBODY) {
                return (long) s.open * law.bothAbove * law.loseBelow;
            }
            if (s.who == PLAINTIFF) {
                return swears ? s.open * below() : 0;
            }
            if (swears) {
                return 0;
            }
            if (s.goesOver) {
                return then ? s.open * below() : 0;
            }
            return (long) s.open * law.loseAbove * law.bothBelow;
        }

        long paidBy(int choices) {
            long above = 0;
            for (int k = 0; k < size; k++) {
                above += paidWhen(standings[k], (choices >> k & 1) == 1, true);
            }
            return above;
        }

        /** Each claim is chosen for by itself, so the end of all choices is the sum of the claims' ends. */
        long paidAtEnd(boolean most) {
            long above = 0;
            for (int k = 0; k < size; k++) {
                long sworn = paidWhen(standings[k], true, true);
                long refused = paidWhen(standings[k], false, true);
                above += most ? Math.max(sworn, refused) : Math.min(sworn, refused);
            }
            return above;
        }

        long paidInTruth() {
            long above = 0;
            for (int k = 0; k < size; k++) {
                Standing s = standings[k];
                above += paidWhen(s, s.swearsInTruth(), s.plaintiffCan);
            }
            return above;
        }

        int choicesInTruth() {
            int choices = 0;
            for (int k = 0; k < size; k++) {
                if (standings[k].swearsInTruth()) {
                    choices |= 1 << k;
                }
            }
            return choices;
        }

        /** What a claim comes to alone hangs on its own answer only, so it is weighed once for each, not once a row. */
        void seekBest() {
            weighAnswers();
            int rows = rowCount();
            for (int row = 0; row < rows; row++) {
                answerBy(row);
                long above = paidInTruth();
                int oaths = oathsOfDefendant();
                if (row == 0 || above < bestAbove || above == bestAbove && oaths < bestOaths) {
                    bestRow = row;
                    bestAbove = above;
                    bestOaths = oaths;
                }
            }
        }

        int oathlessRows() {
            int many = 0;
            int rows = rowCount();
            for (int row = 0; row < rows; row++) {
                answerBy(row);
                if (!someDue() && paidInTruth() <= bestAbove) {
                    many++;
                }
            }
            return many;
        }

        private void weighAnswers() {
            for (int k = 0; k < size && k < MOST_ANSWERED; k++) {
                instead.copy(brought[k]);
                for (int way = 0; way < ANSWERS; way++) {
                    instead.answerAs(way);
                    weigh(instead, answered[k * ANSWERS + way]);
                }
            }
        }

        private int rowCount() {
            int rows = 1;
            for (int k = 0; k < size && k < MOST_ANSWERED; k++) {
                rows *= ANSWERS;
            }
            return rows;
        }

        int answerIn(int row, int place) {
            int rest = row;
            for (int k = size - 1; k > place; k--) {
                rest /= ANSWERS;
            }
            return rest % ANSWERS;
        }

        private void answerBy(int row) {
            int rest = row;
            for (int k = Math.min(size, MOST_ANSWERED) - 1; k >= 0; k--) {
                standings[k] = answered[k * ANSWERS + rest % ANSWERS];
                rest /= ANSWERS;
            }
            settle();
        }

        private int oathsOfDefendant() {
            int many = 0;
            for (int k = 0; k < size; k++) {
                if (standings[k].hasOath() && standings[k].who == DEFENDANT) {
                    many++;
                }
            }
            return many;
        }

        private boolean someDue() {
            for (int k = 0; k < size; k++) {
                if (standings[k].comesTo == DUE) {
                    return true;
                }
            }
            return false;
        }
    }

    private static final class Deeds {
        static final int KEPT = 20, DEEPEST = 40;
        /** By kind and act; 0: the kind has no body of that act. */
        private static final int[] BODIES = {10, 11, 12, 0, 20, 0, 30, 0, 31, 40, 0, 0, 0, 51, 50, 0, 60, 0, 0, 0, 70};

        private final int[] bodies = new int[KEPT];
        private int claimCount, suitCount;
        int ran;

        Deeds() {
        }

        void begin(int claimsNow, int suitsNow) {
            claimCount = claimsNow;
            suitCount = suitsNow;
            ran = 0;
        }

        int bodyAt(int i) {
            return i >= 0 && i < ran && i < KEPT ? bodies[i] : NONE;
        }

        int does(int kind, int act, int x) {
            return perform(kind, kind, act, x, 0);
        }

        /** The body of an act for the kind self, sought from the kind from on upwards. */
        private int perform(int self, int from, int act, int x, int depth) {
            int body = bodyFrom(from, act);
            if (body == 0 || depth > DEEPEST) {
                return 0;
            }
            if (ran < KEPT) {
                bodies[ran] = body;
            }
            ran++;
            int deeper = depth + 1;
            switch (body) {
                case 10:
                    return x + claimCount;
                case 11:
                    return perform(self, self, SWEARS, x, deeper) - suitCount;
                case 12:
                    return perform(self, self, FREES, x, deeper) * 2;
                case 20:
                    return perform(self, OATH, FREES, x, deeper) ^ 6;
                case 30:
                    return perform(self, PART, SWEARS, x * 3, deeper);
                case 31:
                    return perform(self, PART, TAKES, x, deeper) + perform(self, self, FREES, 1, deeper);
                case 40:
                    return -perform(self, OATH, SWEARS, x, deeper);
                case 50:
                    return perform(self, GUARD, TAKES, x - claimCount, deeper);
                case 51:
                    return perform(self, GUARD, FREES, x, deeper) + perform(self, GUARD, SWEARS, 2, deeper);
                case 60:
                    return perform(self, OATH, FREES, x + suitCount, deeper);
                default:
                    return perform(self, self, SWEARS, x, deeper) - perform(self, OATH, TAKES, x, deeper);
            }
        }

        private static int bodyFrom(int from, int act) {
            int kind = from;
            for (int step = 0; step < KINDS && kind >= 0; step++) {
                int body = BODIES[kind * ACTS + act];
                if (body != 0) {
                    return body;
                }
                kind = ABOVE[kind];
            }
            return 0;
        }
    }

    private static final class Tape {
        final long[] items = new long[MOST_ITEMS];
        int sort = EMPTY, size;

        Tape() {
        }

        void become(int itsSort, int itsSize) {
            sort = itsSort;
            size = itsSize;
            Arrays.fill(items, 0L);
        }

        boolean holdsPlace(long i) {
            return i >= 0 && i < size && i < MOST_ITEMS;
        }

        boolean holdsRun(int i, int n) {
            return i >= 0 && n >= 0 && (long) i + n <= size;
        }

        long cut(long v) {
            switch (sort) {
                case BYTES:
                    return (byte) v;
                case SHORTS:
                    return (short) v;
                case INTS:
                    return (int) v;
                case BOOLEANS:
                    return v != 0 ? 1 : 0;
                default:
                    return v;
            }
        }
    }
}
