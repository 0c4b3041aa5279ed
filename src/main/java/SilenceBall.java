import java.util.NoSuchElementException;

/** Rooms in which the silence rises, evenings in them, and what can be reckoned of both. */
public final class SilenceBall {
    public static final int NONE = -1;

    private static final int OTHERS = -2;

    private static final int MOST_GUESTS = 6;
    private static final int MOST_BELTS = 5;
    private static final int MOST_MEN = 3;
    private static final int MOST_GAPS = 9;
    private static final int FARTHEST = 9;
    private static final int DEEPEST = 60;
    private static final int FARTHEST_MINUTE = 60;

    private static final int IN = 0;
    private static final int SAFE = 1;
    private static final int SUNK = 2;

    private static final int WAVER = 1;
    private static final int HEAVY = 2;
    private static final int SHABBY = 3;

    private final Tape tape;
    private final House house;
    private final RoomReader roomReader;
    private final Evening evening;
    private final Evening draftEvening;
    private final Scene now;
    private final Scene ahead;
    private final Acts acts;
    private final Mark[] marks;
    private final Seen seen;
    private final Inquest inquest;
    private final Rescue rescue;

    public SilenceBall() {
        tape = new Tape();
        house = new House();
        roomReader = new RoomReader(tape);
        evening = new Evening();
        draftEvening = new Evening();
        now = new Scene(house);
        ahead = new Scene(house);
        acts = new Acts(house);
        marks = new Mark[4];
        for (int i = 0; i < marks.length; i++) {
            marks[i] = new Mark(house);
        }
        seen = new Seen();
        inquest = new Inquest();
        rescue = new Rescue(house, now);
    }

    public int feed(long a, long b, long c) {
        tape.putEight(a);
        tape.putEight(b);
        tape.putEight(c);
        return tape.length;
    }

    public int room() {
        int fault = roomReader.read();
        tape.clear();
        if (fault == 0) {
            house.copyFrom(roomReader.draft);
            now.begin();
            evening.clear();
            seen.clear();
            acts.clear();
            liftMarks();
        }
        return fault;
    }

    private void liftMarks() {
        for (int i = 0; i < marks.length; i++) {
            Mark mark = marks[i];
            if (mark != null) {
                mark.lift();
            }
        }
    }

    public int evening() {
        int fault = draftEvening.read(tape, house);
        tape.clear();
        if (fault == 0) {
            evening.copyFrom(draftEvening);
        }
        return fault;
    }

    public int guest(int guest, int what) {
        if (!house.isGuest(guest)) {
            return OTHERS;
        }
        switch (what) {
            case 0:
                return house.kind[guest];
            case 1:
                return now.place[guest];
            case 2:
                return house.chin[guest];
            case 3:
                return now.breath[guest];
            case 4:
                return house.weight[guest];
            case 5:
                return now.belt[guest];
            case 6:
                return now.state[guest];
            default:
                return OTHERS;
        }
    }

    public int belt(int belt, int what) {
        if (!house.isBelt(belt)) {
            return OTHERS;
        }
        switch (what) {
            case 0:
                return house.bears[belt];
            case 1:
                return now.holderOf(belt);
            default:
                return OTHERS;
        }
    }

    public int man(int man, int what) {
        if (!house.isMan(man)) {
            return NONE;
        }
        switch (what) {
            case 0:
                return house.post[man];
            case 1:
                return house.reach[man];
            case 2:
                return now.isFree(man) ? 1 : 0;
            default:
                return NONE;
        }
    }

    public boolean cast(int man, int belt, int guest) {
        if (!now.canCast(man, belt, guest)) {
            return false;
        }
        acts.keep(now);
        now.giveBelt(man, belt, guest);
        return true;
    }

    public int ask() {
        if (!now.canAsk()) {
            return NONE;
        }
        acts.keep(now);
        now.openGap();
        return now.gaps;
    }

    public int stop(int man) {
        if (!now.canStop(man)) {
            return NONE;
        }
        acts.keep(now);
        now.closeGap(man);
        return now.gaps;
    }

    public int minute() {
        acts.keep(now);
        return now.pass();
    }

    public boolean undo() {
        return acts.bringBack(now);
    }

    public int judged(int what) {
        if (what < 0 || what > 2) {
            return OTHERS;
        }
        return evening.judge(ahead, what);
    }

    public int under() {
        int bits = 0;
        for (int g = 0; g < house.guests; g++) {
            if (now.isUnder(g)) {
                bits |= 1 << g;
            }
        }
        return bits;
    }

    public int cries() {
        return now.criers();
    }

    public int later(int minutes) {
        if (minutes < 0 || minutes > FARTHEST_MINUTE) {
            return NONE;
        }
        goAhead(minutes);
        return ahead.depth;
    }

    private void goAhead(int minutes) {
        ahead.copyFrom(now);
        for (int n = 0; n < minutes; n++) {
            ahead.pass();
        }
    }

    public int over(int depth) {
        if (depth < 0 || depth > DEEPEST) {
            return NONE;
        }
        ahead.copyFrom(now);
        for (int n = 0; n <= FARTHEST_MINUTE; n++) {
            if (ahead.depth >= depth) {
                return n;
            }
            ahead.pass();
        }
        return NONE;
    }

    public int sinks(int guest) {
        return minutesUntil(guest, SUNK);
    }

    private int minutesUntil(int guest, int state) {
        if (!now.isIn(guest)) {
            return NONE;
        }
        ahead.copyFrom(now);
        for (int n = 1; n <= FARTHEST_MINUTE; n++) {
            ahead.pass();
            if (ahead.isInState(guest, state)) {
                return n;
            }
        }
        return NONE;
    }

    public int first() {
        ahead.copyFrom(now);
        for (int n = 1; n <= FARTHEST_MINUTE; n++) {
            int sunk = ahead.pass();
            if (sunk != 0) {
                return lowestBit(sunk);
            }
        }
        return NONE;
    }

    private static int lowestBit(int bits) {
        for (int i = 0; i < 32; i++) {
            if ((bits >> i & 1) == 1) {
                return i;
            }
        }
        return NONE;
    }

    public int home(int guest) {
        return minutesUntil(guest, SAFE);
    }

    public int quiet() {
        ahead.copyFrom(now);
        for (int n = 0; n <= FARTHEST_MINUTE; n++) {
            if (ahead.whoIs(IN) == 0) {
                return n;
            }
            ahead.pass();
        }
        return NONE;
    }

    public int when(int guest) {
        ahead.copyFrom(now);
        for (int n = 0; n <= FARTHEST_MINUTE; n++) {
            if (ahead.isCrying(guest)) {
                return n;
            }
            ahead.pass();
        }
        return NONE;
    }

    public int lost(int minutes) {
        if (minutes < 0 || minutes > FARTHEST_MINUTE) {
            return NONE;
        }
        goAhead(minutes);
        return ahead.whoIs(SUNK);
    }

    public int fits(int belt) {
        return house.isBelt(belt) ? now.borneBy(belt) : NONE;
    }

    public int could(int man) {
        if (!house.isMan(man)) {
            return NONE;
        }
        int bits = 0;
        for (int g = 0; g < house.guests; g++) {
            if (now.canReach(man, g)) {
                bits |= 1 << g;
            }
        }
        return bits;
    }

    public int best(int what) {
        if (what != NONE && !house.isMan(what)) {
            return OTHERS;
        }
        rescue.plan();
        return what == NONE ? rescue.most : rescue.guestOf[what];
    }

    public int with(int man) {
        if (!house.isMan(man)) {
            return OTHERS;
        }
        rescue.plan();
        return rescue.beltOf[man];
    }

    public int need() {
        int crying = now.criers();
        int best = NONE;
        int least = 0;
        for (int set = 0; set < 1 << house.belts; set++) {
            if (!house.bearsAll(set, crying)) {
                continue;
            }
            int together = house.bearing(set);
            if (best == NONE || together < least) {
                best = set;
                least = together;
            }
        }
        return best;
    }

    public int latest(int guest) {
        if (!now.isIn(guest) || house.leastBelt(guest) == NONE) {
            return NONE;
        }
        int minutes = minutesUntil(guest, SUNK);
        return minutes == NONE ? FARTHEST_MINUTE : minutes - 1;
    }

    public int enough(int guest) {
        return house.leastBelt(guest);
    }

    public int near(int guest) {
        if (!house.isGuest(guest)) {
            return NONE;
        }
        int nearest = NONE;
        int least = 0;
        for (int m = 0; m < house.men; m++) {
            int far = Math.abs(house.post[m] - now.place[guest]);
            if (nearest == NONE || far < least) {
                nearest = m;
                least = far;
            }
        }
        return nearest;
    }

    public int gap(int guest, int other) {
        if (!house.isGuest(guest) || !house.isGuest(other) || guest == other) {
            return NONE;
        }
        return Math.abs(now.place[guest] - now.place[other]);
    }

    public int row() {
        int most = 0;
        for (int place = 1; place <= FARTHEST; place++) {
            most = Math.max(most, now.manyAt(place));
        }
        return most;
    }

    public int dense() {
        int densest = NONE;
        int most = 0;
        for (int place = 1; place <= FARTHEST; place++) {
            int many = now.manyAt(place);
            if (many > most) {
                densest = place;
                most = many;
            }
        }
        return densest;
    }

    public int tight() {
        int tightest = NONE;
        int least = 0;
        for (int g = 0; g < house.guests; g++) {
            if (!now.isIn(g) || !house.canDrown(g) || now.belt[g] != NONE) {
                continue;
            }
            int above = house.chin[g] - now.depth;
            if (tightest == NONE || above < least) {
                tightest = g;
                least = above;
            }
        }
        return tightest;
    }

    public int spare() {
        int bits = 0;
        for (int b = 0; b < house.belts; b++) {
            if (now.isOnWall(b) && now.borneBy(b) == 0) {
                bits |= 1 << b;
            }
        }
        return bits;
    }

    public boolean save(int guest, int man, int belt) {
        return isSavedBy(guest, man, belt);
    }

    private boolean isSavedBy(int guest, int man, int belt) {
        if (!now.canCast(man, belt, guest)) {
            return false;
        }
        ahead.copyFrom(now);
        ahead.giveBelt(man, belt, guest);
        for (int n = 0; n < FARTHEST_MINUTE && ahead.isIn(guest); n++) {
            ahead.pass();
        }
        return !ahead.isInState(guest, SUNK);
    }

    public int worth(int man) {
        if (!house.isMan(man)) {
            return NONE;
        }
        goAhead(FARTHEST_MINUTE);
        int sunk = ahead.whoIs(SUNK);
        int saved = 0;
        for (int g = 0; g < house.guests; g++) {
            if ((sunk >> g & 1) == 1 && isSavedBy(g, man, house.leastBelt(g))) {
                saved++;
            }
        }
        return saved;
    }

    public boolean see(int depth, int minutes) {
        if (depth < 0 || depth > DEEPEST || minutes < 1 || minutes > Seen.LAST_MINUTE) {
            return false;
        }
        return seen.add(depth, minutes);
    }

    public int holes() {
        inquest.open(ahead);
        return inquest.possible(seen);
    }

    public int look() {
        inquest.open(ahead);
        return inquest.tellingMinute(seen);
    }

    public int chance(int guest, int minutes, int odds) {
        if (!house.isGuest(guest) || minutes < 1 || minutes > 6 || odds < 0 || odds > 10) {
            return NONE;
        }
        int millionths = 0;
        for (int path = 0; path < 1 << minutes; path++) {
            int weight = weightOf(path, minutes, odds);
            if (weight > 0 && isSunkBy(guest, path, minutes)) {
                millionths += weight;
            }
        }
        return millionths;
    }

    /** How likely the questions come as the path's bits tell, in millionths: six tenths multiplied are just that. */
    private static int weightOf(int path, int minutes, int odds) {
        int weight = 1;
        for (int n = 0; n < 6; n++) {
            if (n >= minutes) {
                weight *= 10;
            } else {
                weight *= (path >> n & 1) == 1 ? odds : 10 - odds;
            }
        }
        return weight;
    }

    private boolean isSunkBy(int guest, int path, int minutes) {
        ahead.copyFrom(now);
        for (int n = 0; n < minutes; n++) {
            if ((path >> n & 1) == 1 && ahead.canAsk()) {
                ahead.openGap();
            }
            ahead.pass();
        }
        return ahead.isInState(guest, SUNK);
    }

    public int rests(int lose, int waves, int talks, int what) throws NoSuchElementException {
        if (!isPrize(lose) || !isPrize(waves) || !isPrize(talks)) {
            throw new NoSuchElementException();
        }
        int found = 0;
        for (int pair = 0; pair < 4; pair++) {
            int one = pair >> 1;
            int other = pair & 1;
            boolean oneRests = gain(1 - one, other, lose, waves, talks) <= gain(one, other, lose, waves, talks);
            boolean otherRests = gain(1 - other, one, lose, waves, talks) <= gain(other, one, lose, waves, talks);
            if (oneRests && otherRests) {
                if (found == what) {
                    return pair;
                }
                found++;
            }
        }
        if (what != NONE) {
            throw new NoSuchElementException();
        }
        return found;
    }

    private static boolean isPrize(int prize) {
        return prize >= 0 && prize <= 9;
    }

    private static int gain(int own, int others, int lose, int waves, int talks) {
        if (own == 1) {
            return others == 1 ? -lose : waves;
        }
        return others == 1 ? talks : 0;
    }

    public int balls(int seed, int minutes, int what) {
        if (seed < 0 || seed > 9999 || minutes < 1 || minutes > 99 || what < 0 || what > 2) {
            return NONE;
        }
        int casts = playBalls(seed, minutes);
        if (what == 0) {
            return casts;
        }
        return ahead.whoIs(what == 1 ? SUNK : SAFE);
    }

    private int playBalls(int seed, int minutes) {
        boolean drawn = house.men > 0 && house.guests > 0 && house.belts > 0;
        long g = seed;
        int casts = 0;
        ahead.copyFrom(now);
        for (int n = 0; n < minutes; n++) {
            if (drawn) {
                g = nextDraw(g);
                int man = below(g, house.men);
                g = nextDraw(g);
                int belt = below(g, house.belts);
                g = nextDraw(g);
                int guest = below(g, house.guests);
                g = nextDraw(g);
                casts += dance(below(g, 5), man, belt, guest);
            }
            ahead.pass();
        }
        return casts;
    }

    private static long nextDraw(long g) {
        return (g * 1103515245L + 12345L) % 2147483648L;
    }

    private static int below(long g, int m) {
        return m > 0 ? (int) (g / 65536L % m) : 0;
    }

    /** Answers how many were cast. */
    private int dance(int figure, int man, int belt, int guest) {
        if (figure == 0 && ahead.canAsk()) {
            ahead.openGap();
        } else if (figure == 1 && ahead.canStop(man)) {
            ahead.closeGap(man);
        } else if ((figure == 2 || figure == 3) && ahead.canCast(man, belt, guest)) {
            ahead.giveBelt(man, belt, guest);
            return 1;
        }
        return 0;
    }

    public boolean mark(int mark, boolean back) {
        Mark place = mark >= 0 && mark < marks.length ? marks[mark] : null;
        if (place == null) {
            return false;
        }
        if (!back) {
            place.lay(now, seen);
            return true;
        }
        if (!place.bringBack(now, seen)) {
            return false;
        }
        acts.clear();
        return true;
    }

    public int count(int what) {
        switch (what) {
            case 0:
                return house.guests;
            case 1:
                return house.belts;
            case 2:
                return house.men;
            case 3:
                return now.minutes;
            case 4:
                return now.gaps;
            case 5:
                return now.depth;
            case 6:
                return now.whoIs(IN);
            case 7:
                return now.whoIs(SAFE);
            case 8:
                return now.whoIs(SUNK);
            case 9:
                return now.wall();
            case 10:
                return evening.lines;
            case 11:
                return seen.many;
            case 12:
                return acts.kept;
            case 13:
                return tape.length;
            default:
                return NONE;
        }
    }

    /** The signs that were fed and not yet read, and the token that is read just now; the first fault stays. */
    private static final class Tape {
        static final int MOST = 1000;

        static final int STRAY = 1;
        static final int UNKNOWN = 2;
        static final int TOLD = 3;
        static final int NOT_AS_TOLD = 4;
        static final int TOO_MANY = 5;

        // A sign's kind is the sign itself, so the kinds of the others keep clear of 40 to 61.
        static final int END = 0;
        static final int NOTHING = 1;
        static final int NUMBER = 2;
        static final int NAME = 3;
        static final int GUEST = 128;
        static final int BELT = 129;
        static final int MAN = 130;
        static final int HOLES = 131;
        static final int WATER = 132;
        static final int RISES = 133;
        static final int AT = 134;
        static final int CHIN = 135;
        static final int BREATH = 136;
        static final int WEIGHS = 137;
        static final int BEARS = 138;
        static final int REACH = 139;
        static final int FIRST_KIND = 140;
        static final int LAST_KIND = 143;
        static final int MINUTE = 144;
        static final int CAST = 145;
        static final int ASK = 146;
        static final int STOP = 147;
        static final int NOT = 148;
        static final int AND = 149;
        static final int OR = 150;
        static final int GAPS = 151;
        static final int DEPTH = 152;
        static final int TALK = 153;
        static final int OUT = 154;

        // The words in the order of their kinds, from 128 on, a blank behind each.
        private static final String WORDS = "guest belt man holes water rises at chin breath weighs bears reach plain waver heavy shabby minute cast ask stop not and or gaps depth talk out ";

        private static final String SIGNS = "()<=+-*;";
        private static final int LONGEST_WORD = 8;
        private static final int LONGEST_NUMBER = 4;

        private final char[] signs = new char[MOST];
        int length;
        private int next;
        private int place;
        int kind;
        int value;
        long letters;
        int fault;

        void clear() {
            length = 0;
        }

        void putEight(long bytes) {
            for (int shift = 56; shift >= 0; shift -= 8) {
                int sign = (int) (bytes >>> shift) & 255;
                boolean fit = sign == 10 || sign >= 32 && sign <= 126;
                if (fit && length < signs.length) {
                    signs[length] = (char) sign;
                    length++;
                }
            }
        }

        private char signAt(int index) {
            return index >= 0 && index < length && index < signs.length ? signs[index] : ' ';
        }

        void begin() {
            next = 0;
            fault = 0;
            advance();
        }

        void advance() {
            while (next < length && isBlank(signAt(next))) {
                next++;
            }
            place = next;
            char sign = signAt(next);
            if (next >= length) {
                kind = END;
            } else if (isLetter(sign)) {
                letters = 0;
                for (; next < length && isLetter(signAt(next)); next++) {
                    letters = 32 * letters + (signAt(next) - 'a' + 1);
                }
                kind = next - place > LONGEST_WORD ? NOTHING : kindOf(letters);
            } else if (isDigit(sign)) {
                value = 0;
                for (; next < length && isDigit(signAt(next)); next++) {
                    value = 10 * value + (signAt(next) - '0');
                }
                kind = next - place > LONGEST_NUMBER ? NOTHING : NUMBER;
            } else {
                kind = SIGNS.indexOf(sign) >= 0 ? sign : NOTHING;
                next++;
            }
        }

        private static boolean isBlank(char sign) {
            return sign == ' ' || sign == '\n';
        }

        private static boolean isLetter(char sign) {
            return sign >= 'a' && sign <= 'z';
        }

        private static boolean isDigit(char sign) {
            return sign >= '0' && sign <= '9';
        }

        private static int kindOf(long letters) {
            long word = 0;
            int kind = GUEST;
            for (int i = 0; i < WORDS.length(); i++) {
                char sign = WORDS.charAt(i);
                if (sign != ' ') {
                    word = 32 * word + (sign - 'a' + 1);
                } else if (word == letters) {
                    return kind;
                } else {
                    word = 0;
                    kind++;
                }
            }
            return NAME;
        }

        boolean isFact() {
            return kind >= GAPS && kind <= OUT;
        }

        /** Else this is the fault; a fact's word is free to be a name. */
        boolean isName() {
            return kind == NAME || isFact() || wrong(STRAY);
        }

        /** Else this is the fault. */
        boolean isNumber(int least, int most) {
            if (kind != NUMBER) {
                return wrong(STRAY);
            }
            return value >= least && value <= most || wrong(NOT_AS_TOLD);
        }

        boolean take(int wanted) {
            if (kind != wanted) {
                return wrong(STRAY);
            }
            advance();
            return true;
        }

        /** Answers false, so that a reader can end with it. */
        boolean wrong(int how) {
            if (fault == 0) {
                fault = how + 16 * place;
            }
            return false;
        }
    }

    /** The E of rises: its numbers, facts and signs in the order in which they are reckoned. */
    private static final class Law {
        private final int[] codes = new int[Tape.MOST];
        private int length;

        // No row of pending parts is longer: four a level, five levels.
        private final int[] pending = new int[32];
        private int height;

        void clear() {
            length = 0;
        }

        void copyFrom(Law other) {
            length = other.length;
            System.arraycopy(other.codes, 0, codes, 0, codes.length);
        }

        void addNumber(int number) {
            add(number);
        }

        /** Kinds of tokens are kept below zero, to be told from numbers. */
        void addKind(int kind) {
            add(-kind);
        }

        private void add(int code) {
            if (length < codes.length) {
                codes[length] = code;
                length++;
            }
        }

        int value(int gaps, int depth, int talk, int out) {
            if (length == 0) {
                return gaps;
            }
            height = 0;
            for (int i = 0; i < length && i < codes.length; i++) {
                int code = codes[i];
                switch (-code) {
                    case Tape.GAPS:
                        push(gaps);
                        break;
                    case Tape.DEPTH:
                        push(depth);
                        break;
                    case Tape.TALK:
                        push(talk);
                        break;
                    case Tape.OUT:
                        push(out);
                        break;
                    case Tape.NOT:
                        push(pop() == 0 ? 1 : 0);
                        break;
                    default:
                        if (code >= 0) {
                            push(code);
                        } else {
                            int right = pop();
                            int left = pop();
                            push(joined(-code, left, right));
                        }
                        break;
                }
            }
            return pop();
        }

        private static int joined(int kind, int left, int right) {
            switch (kind) {
                case '+':
                    return left + right;
                case '-':
                    return left - right;
                case '*':
                    return left * right;
                case '<':
                    return left < right ? 1 : 0;
                case '=':
                    return left == right ? 1 : 0;
                case Tape.AND:
                    return left != 0 && right != 0 ? 1 : 0;
                default:
                    return left != 0 || right != 0 ? 1 : 0;
            }
        }

        private void push(int number) {
            if (height < pending.length) {
                pending[height] = number;
                height++;
            }
        }

        private int pop() {
            if (height <= 0 || height > pending.length) {
                return 0;
            }
            height--;
            return pending[height];
        }
    }

    /** What a ROOM tells: nothing that is done changes it. */
    private static final class House {
        int guests;
        int belts;
        int men;
        int gaps;
        int water;
        final long[] guestNames = new long[MOST_GUESTS];
        final int[] kind = new int[MOST_GUESTS];
        final int[] place = new int[MOST_GUESTS];
        final int[] chin = new int[MOST_GUESTS];
        final int[] breath = new int[MOST_GUESTS];
        final int[] weight = new int[MOST_GUESTS];
        final long[] beltNames = new long[MOST_BELTS];
        final int[] bears = new int[MOST_BELTS];
        final long[] manNames = new long[MOST_MEN];
        final int[] post = new int[MOST_MEN];
        final int[] reach = new int[MOST_MEN];
        final Law law = new Law();

        void clear() {
            guests = 0;
            belts = 0;
            men = 0;
            gaps = 0;
            water = 0;
            law.clear();
        }

        void copyFrom(House other) {
            guests = other.guests;
            belts = other.belts;
            men = other.men;
            gaps = other.gaps;
            water = other.water;
            System.arraycopy(other.guestNames, 0, guestNames, 0, MOST_GUESTS);
            System.arraycopy(other.kind, 0, kind, 0, MOST_GUESTS);
            System.arraycopy(other.place, 0, place, 0, MOST_GUESTS);
            System.arraycopy(other.chin, 0, chin, 0, MOST_GUESTS);
            System.arraycopy(other.breath, 0, breath, 0, MOST_GUESTS);
            System.arraycopy(other.weight, 0, weight, 0, MOST_GUESTS);
            System.arraycopy(other.beltNames, 0, beltNames, 0, MOST_BELTS);
            System.arraycopy(other.bears, 0, bears, 0, MOST_BELTS);
            System.arraycopy(other.manNames, 0, manNames, 0, MOST_MEN);
            System.arraycopy(other.post, 0, post, 0, MOST_MEN);
            System.arraycopy(other.reach, 0, reach, 0, MOST_MEN);
            law.copyFrom(other.law);
        }

        /** The guest whose row is filled belongs to the house from then on. */
        void addGuest() {
            if (guests < MOST_GUESTS) {
                if (kind[guests] == HEAVY) {
                    weight[guests] += 5;
                }
                guests++;
            }
        }

        boolean isGuest(int guest) {
            return guest >= 0 && guest < guests;
        }

        boolean isBelt(int belt) {
            return belt >= 0 && belt < belts;
        }

        boolean isMan(int man) {
            return man >= 0 && man < men;
        }

        static int find(long[] names, int many, long name) {
            for (int i = 0; i < many && i < names.length; i++) {
                if (names[i] == name) {
                    return i;
                }
            }
            return NONE;
        }

        boolean isTold(long name) {
            return find(guestNames, guests, name) != NONE
                || find(beltNames, belts, name) != NONE
                || find(manNames, men, name) != NONE;
        }

        boolean canDrown(int guest) {
            return guest >= 0 && guest < guests && kind[guest] != WAVER && kind[guest] != SHABBY;
        }

        boolean isShabby(int guest) {
            return guest >= 0 && guest < guests && kind[guest] == SHABBY;
        }

        boolean isBorne(int belt, int guest) {
            return belt >= 0 && belt < belts && guest >= 0 && guest < guests && bears[belt] >= weight[guest];
        }

        int leastBelt(int guest) {
            int least = NONE;
            for (int b = 0; b < belts; b++) {
                if (isBorne(b, guest) && (least == NONE || bears[b] < bears[least])) {
                    least = b;
                }
            }
            return least;
        }

        int bearing(int set) {
            int sum = 0;
            for (int b = 0; b < belts; b++) {
                if ((set >> b & 1) == 1) {
                    sum += bears[b];
                }
            }
            return sum;
        }

        /**
         * Whether the belts of a set are as many as the crying, and can be dealt to them. A belt that bears
         * one bears all lighter ones, so it is enough that for each there are as many belts as
         * guests no lighter.
         */
        boolean bearsAll(int set, int crying) {
            if (Integer.bitCount(set) != Integer.bitCount(crying)) {
                return false;
            }
            for (int g = 0; g < guests; g++) {
                if ((crying >> g & 1) == 1 && beltsFrom(set, weight[g]) < guestsFrom(crying, weight[g])) {
                    return false;
                }
            }
            return true;
        }

        private int beltsFrom(int set, int least) {
            int many = 0;
            for (int b = 0; b < belts; b++) {
                if ((set >> b & 1) == 1 && bears[b] >= least) {
                    many++;
                }
            }
            return many;
        }

        private int guestsFrom(int set, int least) {
            int many = 0;
            for (int g = 0; g < guests; g++) {
                if ((set >> g & 1) == 1 && weight[g] >= least) {
                    many++;
                }
            }
            return many;
        }
    }

    /** Reads a ROOM from the tape into a draft of a house. */
    private static final class RoomReader {
        private static final int MOST_LEVELS = 5;

        final House draft = new House();
        private final Tape tape;
        private boolean gapsTold;
        private boolean waterTold;
        private boolean lawTold;

        RoomReader(Tape tape) {
            this.tape = tape;
        }

        /** Answers 0, or the fault. */
        int read() {
            draft.clear();
            gapsTold = false;
            waterTold = false;
            lawTold = false;
            tape.begin();
            boolean right = true;
            for (int line = 0; right && line < Tape.MOST && tape.kind != Tape.END; line++) {
                switch (tape.kind) {
                    case Tape.GUEST:
                        right = readGuest(draft.guests);
                        break;
                    case Tape.BELT:
                        right = readBelt(draft.belts);
                        break;
                    case Tape.MAN:
                        right = readMan(draft.men);
                        break;
                    case Tape.HOLES:
                        right = readGaps();
                        break;
                    case Tape.WATER:
                        right = readWater();
                        break;
                    case Tape.RISES:
                        right = readLaw();
                        break;
                    default:
                        right = tape.wrong(Tape.STRAY);
                        break;
                }
            }
            return tape.fault;
        }

        private boolean readGuest(int g) {
            if (g >= MOST_GUESTS) {
                return tape.wrong(Tape.TOO_MANY);
            }
            tape.advance();
            boolean right = readName(draft.guestNames, g)
                && readKind(draft.kind, g)
                && readMeasure(Tape.AT, 1, FARTHEST, draft.place, g)
                && readMeasure(Tape.CHIN, 1, 40, draft.chin, g)
                && readMeasure(Tape.BREATH, 1, 9, draft.breath, g)
                && readMeasure(Tape.WEIGHS, 1, 30, draft.weight, g)
                && tape.take(';');
            if (right) {
                draft.addGuest();
            }
            return right;
        }

        private boolean readBelt(int b) {
            if (b >= MOST_BELTS) {
                return tape.wrong(Tape.TOO_MANY);
            }
            tape.advance();
            boolean right = readName(draft.beltNames, b)
                && readMeasure(Tape.BEARS, 1, 40, draft.bears, b)
                && tape.take(';');
            if (right) {
                draft.belts++;
            }
            return right;
        }

        private boolean readMan(int m) {
            if (m >= MOST_MEN) {
                return tape.wrong(Tape.TOO_MANY);
            }
            tape.advance();
            boolean right = readName(draft.manNames, m)
                && readMeasure(Tape.AT, 0, FARTHEST, draft.post, m)
                && readMeasure(Tape.REACH, 0, 9, draft.reach, m)
                && tape.take(';');
            if (right) {
                draft.men++;
            }
            return right;
        }

        private boolean readGaps() {
            if (gapsTold) {
                return tape.wrong(Tape.TOLD);
            }
            gapsTold = true;
            tape.advance();
            if (!tape.isNumber(0, MOST_GAPS)) {
                return false;
            }
            draft.gaps = tape.value;
            tape.advance();
            return tape.take(';');
        }

        private boolean readWater() {
            if (waterTold) {
                return tape.wrong(Tape.TOLD);
            }
            waterTold = true;
            tape.advance();
            if (!tape.isNumber(0, 40)) {
                return false;
            }
            draft.water = tape.value;
            tape.advance();
            return tape.take(';');
        }

        private boolean readLaw() {
            if (lawTold) {
                return tape.wrong(Tape.TOLD);
            }
            lawTold = true;
            tape.advance();
            return readE(0) && tape.take(';');
        }

        private boolean readName(long[] names, int index) {
            if (!tape.isName()) {
                return false;
            }
            if (draft.isTold(tape.letters)) {
                return tape.wrong(Tape.TOLD);
            }
            if (index >= 0 && index < names.length) {
                names[index] = tape.letters;
            }
            tape.advance();
            return true;
        }

        private boolean readKind(int[] into, int index) {
            if (tape.kind < Tape.FIRST_KIND || tape.kind > Tape.LAST_KIND) {
                return tape.wrong(Tape.STRAY);
            }
            if (index >= 0 && index < into.length) {
                into[index] = tape.kind - Tape.FIRST_KIND;
            }
            tape.advance();
            return true;
        }

        private boolean readMeasure(int word, int least, int most, int[] into, int index) {
            if (tape.kind != word) {
                return tape.wrong(Tape.STRAY);
            }
            tape.advance();
            if (!tape.isNumber(least, most)) {
                return false;
            }
            if (index >= 0 && index < into.length) {
                into[index] = tape.value;
            }
            tape.advance();
            return true;
        }

        // From here on each method reads the part of an E that it is named for, so many levels within not and ( ).

        private boolean readE(int level) {
            boolean right = readTest(level);
            for (int n = 0; right && n < Tape.MOST; n++) {
                int kind = tape.kind;
                if (kind != Tape.AND && kind != Tape.OR) {
                    break;
                }
                tape.advance();
                right = readTest(level) && write(kind);
            }
            return right;
        }

        private boolean readTest(int level) {
            if (!readSum(level)) {
                return false;
            }
            int kind = tape.kind;
            if (kind != '<' && kind != '=') {
                return true;
            }
            tape.advance();
            return readSum(level) && write(kind);
        }

        private boolean readSum(int level) {
            boolean right = readProduct(level);
            for (int n = 0; right && n < Tape.MOST; n++) {
                int kind = tape.kind;
                if (kind != '+' && kind != '-') {
                    break;
                }
                tape.advance();
                right = readProduct(level) && write(kind);
            }
            return right;
        }

        private boolean readProduct(int level) {
            boolean right = readPart(level);
            for (int n = 0; right && n < Tape.MOST && tape.kind == '*'; n++) {
                tape.advance();
                right = readPart(level) && write('*');
            }
            return right;
        }

        private boolean readPart(int level) {
            int kind = tape.kind;
            if (kind != Tape.NUMBER && kind != Tape.NOT && kind != '(' && !tape.isFact()) {
                return tape.wrong(Tape.STRAY);
            }
            if (level >= MOST_LEVELS) {
                return tape.wrong(Tape.TOO_MANY);
            }
            int number = tape.value;
            tape.advance();
            if (kind == Tape.NOT) {
                return readPart(level + 1) && write(kind);
            }
            if (kind == '(') {
                return readE(level + 1) && tape.take(')');
            }
            if (kind == Tape.NUMBER) {
                draft.law.addNumber(number);
                return true;
            }
            return write(kind);
        }

        private boolean write(int kind) {
            draft.law.addKind(kind);
            return true;
        }
    }

    /** The lines of an EVENING. */
    private static final class Evening {
        static final int MOST_LINES = 40;

        int lines;
        private final int[] act = new int[MOST_LINES];
        private final int[] man = new int[MOST_LINES];
        private final int[] belt = new int[MOST_LINES];
        private final int[] guest = new int[MOST_LINES];

        void clear() {
            lines = 0;
        }

        void copyFrom(Evening other) {
            lines = other.lines;
            System.arraycopy(other.act, 0, act, 0, MOST_LINES);
            System.arraycopy(other.man, 0, man, 0, MOST_LINES);
            System.arraycopy(other.belt, 0, belt, 0, MOST_LINES);
            System.arraycopy(other.guest, 0, guest, 0, MOST_LINES);
        }

        /** Reads the tape; answers 0, or the fault. */
        int read(Tape tape, House house) {
            lines = 0;
            tape.begin();
            boolean right = true;
            for (int line = 0; right && line < Tape.MOST && tape.kind != Tape.END; line++) {
                right = readLine(tape, house);
            }
            return tape.fault;
        }

        private boolean readLine(Tape tape, House house) {
            int kind = tape.kind;
            if (kind < Tape.MINUTE || kind > Tape.STOP) {
                return tape.wrong(Tape.STRAY);
            }
            if (lines >= MOST_LINES) {
                return tape.wrong(Tape.TOO_MANY);
            }
            tape.advance();
            act[lines] = kind;
            boolean right = true;
            if (kind == Tape.CAST || kind == Tape.STOP) {
                right = readName(tape, house.manNames, house.men, man);
            }
            if (kind == Tape.CAST) {
                right = right && readName(tape, house.beltNames, house.belts, belt)
                    && readName(tape, house.guestNames, house.guests, guest);
            }
            right = right && tape.take(';');
            if (right) {
                lines++;
            }
            return right;
        }

        private boolean readName(Tape tape, long[] names, int many, int[] into) {
            if (!tape.isName()) {
                return false;
            }
            int found = House.find(names, many, tape.letters);
            if (found == NONE) {
                return tape.wrong(Tape.UNKNOWN);
            }
            if (lines < into.length) {
                into[lines] = found;
            }
            tape.advance();
            return true;
        }

        int judge(Scene scene, int what) {
            int barred = NONE;
            int sinking = NONE;
            scene.begin();
            for (int line = 0; line < lines && line < MOST_LINES; line++) {
                int sunk = play(line, scene);
                if (sunk == NONE && barred == NONE) {
                    barred = line;
                }
                if (sunk > 0 && sinking == NONE) {
                    sinking = line;
                }
            }
            if (what == 0) {
                return barred;
            }
            return what == 1 ? sinking : Integer.bitCount(scene.whoIs(SAFE));
        }

        /** Answers who is SUNK by a line, as bits, or NONE if it can't be. */
        private int play(int line, Scene scene) {
            boolean can = true;
            switch (act[line]) {
                case Tape.MINUTE:
                    return scene.pass();
                case Tape.ASK:
                    can = scene.canAsk();
                    if (can) {
                        scene.openGap();
                    }
                    break;
                case Tape.STOP:
                    can = scene.canStop(man[line]);
                    if (can) {
                        scene.closeGap(man[line]);
                    }
                    break;
                default:
                    can = scene.canCast(man[line], belt[line], guest[line]);
                    if (can) {
                        scene.giveBelt(man[line], belt[line], guest[line]);
                    }
                    break;
            }
            return can ? 0 : NONE;
        }
    }

    /** How things stand in a house at some minute: all that is done changes nothing but this. */
    private static final class Scene {
        private final House house;
        final int[] place = new int[MOST_GUESTS];
        final int[] breath = new int[MOST_GUESTS];
        final int[] state = new int[MOST_GUESTS];
        final int[] belt = new int[MOST_GUESTS];
        private int busy;
        int gaps;
        int depth;
        int minutes;

        Scene(House house) {
            this.house = house;
        }

        void begin() {
            for (int g = 0; g < MOST_GUESTS; g++) {
                place[g] = house.place[g];
                breath[g] = house.breath[g];
                state[g] = IN;
                belt[g] = NONE;
            }
            busy = 0;
            gaps = house.gaps;
            depth = house.water;
            minutes = 0;
        }

        void copyFrom(Scene other) {
            System.arraycopy(other.place, 0, place, 0, MOST_GUESTS);
            System.arraycopy(other.breath, 0, breath, 0, MOST_GUESTS);
            System.arraycopy(other.state, 0, state, 0, MOST_GUESTS);
            System.arraycopy(other.belt, 0, belt, 0, MOST_GUESTS);
            busy = other.busy;
            gaps = other.gaps;
            depth = other.depth;
            minutes = other.minutes;
        }

        boolean isInState(int guest, int wanted) {
            return house.isGuest(guest) && state[guest] == wanted;
        }

        boolean isIn(int guest) {
            return house.isGuest(guest) && state[guest] == IN;
        }

        int whoIs(int wanted) {
            int bits = 0;
            for (int g = 0; g < house.guests; g++) {
                if (state[g] == wanted) {
                    bits |= 1 << g;
                }
            }
            return bits;
        }

        int manyAt(int where) {
            int many = 0;
            for (int g = 0; g < house.guests; g++) {
                if (state[g] == IN && place[g] == where) {
                    many++;
                }
            }
            return many;
        }

        int holderOf(int wanted) {
            for (int g = 0; g < house.guests; g++) {
                if (belt[g] == wanted) {
                    return g;
                }
            }
            return NONE;
        }

        boolean isOnWall(int wanted) {
            return house.isBelt(wanted) && holderOf(wanted) == NONE;
        }

        int wall() {
            int bits = 0;
            for (int b = 0; b < house.belts; b++) {
                if (holderOf(b) == NONE) {
                    bits |= 1 << b;
                }
            }
            return bits;
        }

        boolean isFree(int man) {
            return house.isMan(man) && (busy >> man & 1) == 0;
        }

        boolean isUnder(int guest) {
            return house.canDrown(guest) && state[guest] == IN && depth > house.chin[guest]
                && !house.isBorne(belt[guest], guest);
        }

        private boolean wantsBelt(int guest) {
            return house.isGuest(guest) && state[guest] == IN && belt[guest] == NONE && !house.isShabby(guest);
        }

        boolean isCrying(int guest) {
            return wantsBelt(guest) && depth > house.chin[guest];
        }

        int criers() {
            int bits = 0;
            for (int g = 0; g < house.guests; g++) {
                if (isCrying(g)) {
                    bits |= 1 << g;
                }
            }
            return bits;
        }

        int borneBy(int wanted) {
            int bits = 0;
            for (int g = 0; g < house.guests; g++) {
                if (state[g] == IN && !house.isShabby(g) && house.isBorne(wanted, g)) {
                    bits |= 1 << g;
                }
            }
            return bits;
        }

        /** Whether a man could cast to a guest, were there a belt. */
        boolean canReach(int man, int guest) {
            return isFree(man) && wantsBelt(guest) && Math.abs(house.post[man] - place[guest]) <= house.reach[man];
        }

        boolean canCast(int man, int wanted, int guest) {
            return isOnWall(wanted) && canReach(man, guest);
        }

        void giveBelt(int man, int given, int guest) {
            if (house.isGuest(guest)) {
                belt[guest] = given;
            }
            busy |= 1 << man;
        }

        boolean canAsk() {
            return gaps < MOST_GAPS;
        }

        void openGap() {
            gaps++;
        }

        boolean canStop(int man) {
            return isFree(man) && gaps > 0;
        }

        void closeGap(int man) {
            gaps--;
            busy |= 1 << man;
        }

        /** The MINUTE; answers who is SUNK by it, as bits. */
        int pass() {
            int sunk = 0;
            for (int g = 0; g < house.guests; g++) {
                if (isIn(g) && drowns(g)) {
                    sunk |= 1 << g;
                }
            }
            for (int g = 0; g < house.guests; g++) {
                if (isIn(g)) {
                    comeNearer(g);
                }
            }
            rise();
            busy = 0;
            minutes++;
            return sunk;
        }

        private boolean drowns(int g) {
            if (!isUnder(g)) {
                breath[g] = house.breath[g];
                return false;
            }
            breath[g]--;
            if (breath[g] > 0) {
                return false;
            }
            state[g] = SUNK;
            belt[g] = NONE;
            return true;
        }

        private void comeNearer(int g) {
            if (belt[g] == NONE && !house.isShabby(g)) {
                return;
            }
            place[g]--;
            if (place[g] <= 0) {
                state[g] = SAFE;
                belt[g] = NONE;
            }
        }

        private void rise() {
            int talk = Integer.bitCount(whoIs(IN));
            int out = house.belts - Integer.bitCount(wall());
            int by = house.law.value(gaps, depth, talk, out);
            by = Math.max(-9, Math.min(9, by));
            depth = Math.max(0, Math.min(DEEPEST, depth + by));
        }
    }

    /** The last acts, as all was ahead of each: a ring, whose oldest place is written over. */
    private static final class Acts {
        private static final int MOST = 16;

        private final Scene[] ring = new Scene[MOST];
        private int next;
        int kept;

        Acts(House house) {
            for (int i = 0; i < MOST; i++) {
                ring[i] = new Scene(house);
            }
        }

        void clear() {
            kept = 0;
        }

        void keep(Scene scene) {
            Scene place = ring[next % MOST];
            if (place == null) {
                return;
            }
            place.copyFrom(scene);
            next = (next + 1) % MOST;
            kept = Math.min(MOST, kept + 1);
        }

        boolean bringBack(Scene into) {
            int last = (next + MOST - 1) % MOST;
            Scene place = ring[last];
            if (kept == 0 || place == null) {
                return false;
            }
            into.copyFrom(place);
            next = last;
            kept--;
            return true;
        }
    }

    /** What is SEEN of the depth. */
    private static final class Seen {
        static final int LAST_MINUTE = 20;
        private static final int MOST = 8;

        int many;
        private final int[] depth = new int[MOST];
        private final int[] minute = new int[MOST];

        void clear() {
            many = 0;
        }

        void copyFrom(Seen other) {
            many = other.many;
            System.arraycopy(other.depth, 0, depth, 0, MOST);
            System.arraycopy(other.minute, 0, minute, 0, MOST);
        }

        boolean add(int newDepth, int newMinute) {
            if (many >= MOST) {
                return false;
            }
            depth[many] = newDepth;
            minute[many] = newMinute;
            many++;
            return true;
        }

        boolean allows(Inquest inquest, int gaps) {
            for (int i = 0; i < many && i < MOST; i++) {
                if (inquest.depthBehind(gaps, minute[i]) != depth[i]) {
                    return false;
                }
            }
            return true;
        }
    }

    /** How deep it is from the begin on by each number of holes at first. */
    private static final class Inquest {
        private static final int WIDTH = Seen.LAST_MINUTE + 1;

        private final int[] course = new int[(MOST_GAPS + 1) * WIDTH];

        void open(Scene scene) {
            for (int gaps = 0; gaps <= MOST_GAPS; gaps++) {
                scene.begin();
                scene.gaps = gaps;
                for (int minute = 0; minute < WIDTH; minute++) {
                    course[gaps * WIDTH + minute] = scene.depth;
                    scene.pass();
                }
            }
        }

        int depthBehind(int gaps, int minute) {
            boolean there = gaps >= 0 && gaps <= MOST_GAPS && minute >= 0 && minute < WIDTH;
            return there ? course[gaps * WIDTH + minute] : NONE;
        }

        int possible(Seen seen) {
            int bits = 0;
            for (int gaps = 0; gaps <= MOST_GAPS; gaps++) {
                if (seen.allows(this, gaps)) {
                    bits |= 1 << gaps;
                }
            }
            return bits;
        }

        int tellingMinute(Seen seen) {
            int possible = possible(seen);
            int least = Integer.bitCount(possible);
            int telling = NONE;
            for (int minute = 1; minute < WIDTH; minute++) {
                int alike = mostAlike(possible, minute);
                if (alike < least) {
                    least = alike;
                    telling = minute;
                }
            }
            return telling;
        }

        private int mostAlike(int possible, int minute) {
            int most = 0;
            for (int gaps = 0; gaps <= MOST_GAPS; gaps++) {
                if ((possible >> gaps & 1) == 1) {
                    most = Math.max(most, manyAsDeep(possible, minute, depthBehind(gaps, minute)));
                }
            }
            return most;
        }

        private int manyAsDeep(int possible, int minute, int depth) {
            int many = 0;
            for (int gaps = 0; gaps <= MOST_GAPS; gaps++) {
                if ((possible >> gaps & 1) == 1 && depthBehind(gaps, minute) == depth) {
                    many++;
                }
            }
            return many;
        }
    }

    /** A MARK: nothing, or all that can be brought back. */
    private static final class Mark {
        private boolean laid;
        private final Scene scene;
        private final Seen seen = new Seen();

        Mark(House house) {
            scene = new Scene(house);
        }

        void lift() {
            laid = false;
        }

        void lay(Scene now, Seen nowSeen) {
            laid = true;
            scene.copyFrom(now);
            seen.copyFrom(nowSeen);
        }

        boolean bringBack(Scene now, Seen nowSeen) {
            if (laid) {
                now.copyFrom(scene);
                nowSeen.copyFrom(seen);
            }
            return laid;
        }
    }

    /** BEST: rows are tried in their order, so that the first of equal ones stays. */
    private static final class Rescue {
        private final House house;
        private final Scene scene;
        int most;
        final int[] guestOf = new int[MOST_MEN];
        final int[] beltOf = new int[MOST_MEN];
        private final int[] triedGuest = new int[MOST_MEN];
        private final int[] triedBelt = new int[MOST_MEN];

        Rescue(House house, Scene scene) {
            this.house = house;
            this.scene = scene;
        }

        void plan() {
            most = 0;
            for (int m = 0; m < MOST_MEN; m++) {
                guestOf[m] = NONE;
                beltOf[m] = NONE;
            }
            chooseGuests(0, 0);
        }

        /** Tries all guests for a man and those behind him; taken: whom those ahead of him have, as bits. */
        private void chooseGuests(int man, int taken) {
            if (man >= house.men || man >= MOST_MEN) {
                if (Integer.bitCount(taken) > most && chooseBelts(0, scene.wall())) {
                    keepTried(Integer.bitCount(taken));
                }
                return;
            }
            for (int g = 0; g < house.guests; g++) {
                if ((taken >> g & 1) == 0 && scene.isCrying(g) && scene.canReach(man, g)) {
                    triedGuest[man] = g;
                    chooseGuests(man + 1, taken | 1 << g);
                }
            }
            triedGuest[man] = NONE;
            chooseGuests(man + 1, taken);
        }

        /** Finds the first row of belts for the guests tried, from those that are left on the wall. */
        private boolean chooseBelts(int man, int left) {
            if (man >= house.men || man >= MOST_MEN) {
                return true;
            }
            if (triedGuest[man] == NONE) {
                triedBelt[man] = NONE;
                return chooseBelts(man + 1, left);
            }
            for (int b = 0; b < house.belts; b++) {
                if ((left >> b & 1) == 1 && house.isBorne(b, triedGuest[man])) {
                    triedBelt[man] = b;
                    if (chooseBelts(man + 1, left & ~(1 << b))) {
                        return true;
                    }
                }
            }
            return false;
        }

        private void keepTried(int many) {
            most = many;
            for (int m = 0; m < house.men && m < MOST_MEN; m++) {
                guestOf[m] = triedGuest[m];
                beltOf[m] = triedBelt[m];
            }
        }
    }
}
