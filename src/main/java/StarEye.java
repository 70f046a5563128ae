import java.util.Arrays;

/** Tells from pictures of stars which way an eye looks. The promises stand in the project's document. */
public final class StarEye {
    public static final int NONE = -1;
    public static final long GAP = -1000000000000L;

    private static final int TOO_LONG = -2;
    private static final int TOO_MANY = -3;
    private static final int SPENT = -2;

    private static final int TAPE_MOST = 1500;
    private static final int SHORT_TEXT_MOST = 400;
    private static final int FED_BYTES = 20;
    private static final int LATEST_TIME = 100000;
    private static final int LONGEST_WAIT = 1000;
    private static final int SHIFT_MOST = 999;
    private static final int BYTES_MOST = 99999;
    private static final int PICTURES = 12;
    private static final int BOXES = 3;

    private static final int STARS = 32;
    private static final int STARS_TO_CHOOSE_FROM = 16;
    private static final int SKY_END = 999;
    private static final int LOOKS_A_SIDE = 10;
    private static final int LOOKS = 100;

    private static final int SIDE = 16;
    private static final int PIXELS = 256;
    private static final int DOTS = 12;
    private static final int SMEAR_REACH = 3;
    private static final int SPECK_PICTURES = 3;

    private static final int POINTS = 6;
    private static final int POINT_PAIRS = 15;
    private static final int NAMED_LEAST = 3;
    private static final int NAMINGS = 200;
    private static final int UNNAMED = 63;

    private static final int RULES = 6;
    private static final int UNITS = 40;
    private static final int WITHIN_MOST = 6;
    private static final int QUANTITIES = 8;

    private static final int FAULT_NO_TOKEN = 1;
    private static final int FAULT_CANT_STAND = 2;
    private static final int FAULT_NAME_TWICE = 3;
    private static final int FAULT_NUMBER = 4;
    private static final int FAULT_TOO_NEAR = 6;

    // Each word stands in a field of eight signs; the numbers below are those of the fields.
    private static final String OWN_WORDS = "star    at      light   eye     wide    unit    far     noise   off     bar     step    needs   lean    room    pair    trust   when    dots    named   namings specks  smears  told    stretch and     or      not     ";
    private static final int OWN_WORDS_COUNT = 27;
    private static final int WORD_LETTERS = 8;
    private static final int NUMBER_DIGITS = 4;
    private static final int WORD_STAR = 0;
    private static final int WORD_AT = 1;
    private static final int WORD_LIGHT = 2;
    private static final int WORD_EYE = 3;
    private static final int WORD_WIDE = 4;
    private static final int WORD_UNIT = 5;
    private static final int WORD_FAR = 6;
    private static final int WORD_NOISE = 7;
    private static final int WORD_OFF = 8;
    private static final int WORD_BAR = 9;
    private static final int WORD_STEP = 10;
    private static final int WORD_NEEDS = 11;
    private static final int WORD_LEAN = 12;
    private static final int WORD_ROOM = 13;
    private static final int WORD_PAIR = 14;
    private static final int WORD_TRUST = 15;
    private static final int WORD_WHEN = 16;
    private static final int WORD_DOTS = 17;
    private static final int WORD_STRETCH = 23;
    private static final int WORD_AND = 24;
    private static final int WORD_OR = 25;
    private static final int WORD_NOT = 26;

    private final Text tape = new Text();
    private final BookReader bookReader = new BookReader();
    private final PictureReader pictureReader = new PictureReader();
    private final RulesReader rulesReader = new RulesReader();
    private final Survey survey = new Survey();
    private final Namer namer = new Namer();
    private final Turn turn = new Turn();
    private final Story story = new Story();
    private final Story[] boxes = new Story[BOXES];
    private final int[] quantities = new int[QUANTITIES];
    private final int[] followers = new int[DOTS];
    // A text with a FAULT must leave all as it was, so it is read into the spare one.
    private Book sky = new Book();
    private Book spareSky = new Book();
    private Rules law = new Rules();
    private Rules spareLaw = new Rules();

    public StarEye() {
        for (int box = 0; box < BOXES; box++) {
            boxes[box] = new Story();
        }
    }

    public int feed(int a, int b, int c, int d, int e) {
        if (tape.length + FED_BYTES > TAPE_MOST) {
            return NONE;
        }
        tape.put(a);
        tape.put(b);
        tape.put(c);
        tape.put(d);
        tape.put(e);
        return tape.length;
    }

    public int end(int n) {
        if (n < 0 || n > tape.length) {
            return NONE;
        }
        tape.length = n;
        return n;
    }

    public int book() {
        boolean whole = bookReader.read(tape, spareSky);
        tape.length = 0;
        if (!whole) {
            return NONE;
        }
        Book old = sky;
        sky = spareSky;
        spareSky = old;
        survey.forget();
        story.clear();
        law.clear();
        for (int box = 0; box < BOXES; box++) {
            boxes[box].kept = false;
        }
        return sky.stars;
    }

    public int picture() {
        if (tape.length > SHORT_TEXT_MOST) {
            return TOO_LONG;
        }
        if (story.count >= PICTURES) {
            tape.length = 0;
            return TOO_MANY;
        }
        Picture seen = pictureReader.read(tape, sky);
        tape.length = 0;
        return seen == null ? NONE : story.add(seen);
    }

    public int rules() {
        if (tape.length > SHORT_TEXT_MOST) {
            return TOO_LONG;
        }
        boolean whole = rulesReader.read(tape, spareLaw);
        tape.length = 0;
        if (!whole) {
            return NONE;
        }
        Rules old = law;
        law = spareLaw;
        spareLaw = old;
        return law.count;
    }

    public int fault(int what) {
        switch (what) {
            case 0:
                return tape.fault;
            case 1:
                return tape.faultPlace;
            default:
                return NONE;
        }
    }

    public boolean untell(int picture) {
        return story.drop(picture);
    }

    public int later(int by) {
        if (by < 0 || by > LONGEST_WAIT || story.time + by > LATEST_TIME) {
            return NONE;
        }
        story.time += by;
        return story.time;
    }

    public boolean speckless(int column, int row, boolean is) {
        if (column < 0 || column >= sky.wide || row < 0 || row >= sky.wide) {
            return false;
        }
        return story.setSpeckless(column, row, is);
    }

    public int dots(int picture, int what, int k) {
        Picture seen = story.known(picture, k);
        if (seen == null) {
            return NONE;
        }
        switch (what) {
            case 0:
                return seen.dots;
            case 1:
                return Integer.bitCount(seen.smears);
            case 2:
                return Integer.bitCount(story.specksOf(seen, k));
            case 3:
                return Integer.bitCount(story.pointsOf(seen, k));
            default:
                return NONE;
        }
    }

    public int dot(int picture, int dot, int what, int k) {
        Picture seen = story.known(picture, k);
        if (seen == null || dot < 0 || dot >= seen.dots || dot >= DOTS) {
            return NONE;
        }
        switch (what) {
            case 0:
                return seen.x[dot];
            case 1:
                return seen.y[dot];
            case 2:
                return seen.light[dot];
            case 3:
                return kindOf(seen, dot, k);
            case 4:
                return seen.pixels[dot];
            default:
                return NONE;
        }
    }

    public int point(int picture, int point, int k) {
        Picture seen = story.known(picture, k);
        return seen == null ? NONE : nthBit(story.pointsOf(seen, k), point);
    }

    public int length(int a, int b) {
        return sky.has(a) && sky.has(b) ? sky.lengthOf(a, b) : NONE;
    }

    public int namings(int picture, int what, int k) {
        Picture seen = knownAndNamed(picture, k);
        if (seen == null) {
            return NONE;
        }
        switch (what) {
            case 0:
                return seen.namings;
            case 1:
                return seen.namedPoints;
            default:
                return NONE;
        }
    }

    public int named(int picture, int i, int point, int k) {
        Picture seen = knownAndNamed(picture, k);
        return seen == null ? NONE : seen.starOf(i, point);
    }

    public long odds(int picture, int i, int part, int k) {
        Picture seen = knownAndNamed(picture, k);
        if (seen == null || !seen.hasNaming(i)) {
            return GAP;
        }
        long upper = seen.oddsUpper(i);
        long lower = seen.oddsLower(sky.pairs());
        switch (part) {
            case 0:
                return inLowestTerms(upper, upper, lower);
            case 1:
                return inLowestTerms(lower, upper, lower);
            default:
                return GAP;
        }
    }

    public int told(int picture, int k) {
        Picture seen = knownAndNamed(picture, k);
        return seen == null ? NONE : toldOf(seen);
    }

    public long turn(int picture, int i, int what, int k) {
        if (!findTurn(picture, i, k)) {
            return GAP;
        }
        switch (what) {
            case 0:
                return inLowestTerms(turn.c, turn.c, turn.s);
            case 1:
                return inLowestTerms(turn.s, turn.c, turn.s);
            default:
                return GAP;
        }
    }

    public long look(int picture, int i, int what, int part, int k) {
        if (what < 0 || what > 1 || !findTurn(picture, i, k) || turn.a == 0) {
            return GAP;
        }
        long middle = 5L * sky.wide * sky.unit;
        long upper = what == 0 ? turn.lookUpperX(middle) : turn.lookUpperY(middle);
        long lower = turn.lookLower();
        switch (part) {
            case 0:
                return inLowestTerms(upper, upper, lower);
            case 1:
                return inLowestTerms(lower, upper, lower);
            default:
                return GAP;
        }
    }

    public long stretch(int picture, int i, int k) {
        return findTurn(picture, i, k) ? turn.stretchOr(GAP) : GAP;
    }

    public int followed(int from, int to, int x, int y, int what, int k) {
        Picture first = story.known(from, k);
        Picture second = story.known(to, k);
        if (first == null || second == null || !canShift(x) || !canShift(y)) {
            return NONE;
        }
        int firstPoints = story.pointsOf(first, k);
        int secondPoints = story.pointsOf(second, k);
        int found = followAll(first, firstPoints, second, secondPoints, x, y);
        switch (what) {
            case 0:
                return found;
            case 1:
                return Integer.bitCount(firstPoints) - found;
            case 2:
                return Integer.bitCount(secondPoints) - found;
            default:
                return NONE;
        }
    }

    public int follow(int from, int to, int x, int y, int point, int k) {
        Picture first = story.known(from, k);
        Picture second = story.known(to, k);
        if (first == null || second == null || !canShift(x) || !canShift(y)) {
            return NONE;
        }
        int firstPoints = story.pointsOf(first, k);
        if (point < 0 || point >= Integer.bitCount(firstPoints) || point >= DOTS) {
            return NONE;
        }
        followAll(first, firstPoints, second, story.pointsOf(second, k), x, y);
        return followers[point];
    }

    public int wanderers(int picture, int k) {
        Picture seen = knownAndNamed(picture, k);
        if (seen == null || seen.namings == 0) {
            return NONE;
        }
        int points = Math.min(POINTS, Integer.bitCount(seen.namedFrom));
        int bits = 0;
        for (int point = 0; point < points; point++) {
            if (seen.starOf(0, point) == NONE) {
                bits |= 1 << point;
            }
        }
        return bits;
    }

    public long shift(int from, int to, int star, int what, int k) {
        Picture first = knownAndNamed(from, k);
        Picture second = knownAndNamed(to, k);
        if (first == null || second == null || !sky.has(star)) {
            return GAP;
        }
        int before = first.dotNamed(star);
        int after = second.dotNamed(star);
        if (before < 0 || before >= DOTS || after < 0 || after >= DOTS) {
            return GAP;
        }
        switch (what) {
            case 0:
                return second.x[after] - first.x[before];
            case 1:
                return second.y[after] - first.y[before];
            default:
                return GAP;
        }
    }

    public int liar(int a, int b, int c) {
        if (a == b && b == c) {
            return NONE;
        }
        long firstSecond = Math.abs((long) a - b);
        long firstThird = Math.abs((long) a - c);
        long secondThird = Math.abs((long) b - c);
        if (firstSecond <= firstThird && firstSecond <= secondThird) {
            return 2;
        }
        return firstThird <= secondThird ? 1 : 0;
    }

    public int looks(int what) {
        survey.lookAround(sky);
        switch (what) {
            case 0:
                return survey.looks;
            case 1:
                return survey.holes;
            case 2:
                return survey.firstHole;
            default:
                return NONE;
        }
    }

    public int chosen(int what) {
        if (what < 0 || what > 1) {
            return NONE;
        }
        if (sky.stars > STARS_TO_CHOOSE_FROM) {
            return SPENT;
        }
        int bits = survey.choose(sky);
        return what == 0 ? Integer.bitCount(bits) : bits;
    }

    public int held(int bytes) {
        return bytes < 0 || bytes > BYTES_MOST ? NONE : survey.hold(sky, bytes);
    }

    public int doubles() {
        return survey.countDoubles(sky);
    }

    public int trust(int picture, int k) {
        return trustOf(picture, k);
    }

    public int believed(int k) {
        int best = NONE;
        int most = NONE;
        for (int picture = 0; picture < story.count; picture++) {
            int worth = trustOf(picture, k);
            if (worth != NONE && worth >= most) {
                most = worth;
                best = picture;
            }
        }
        return best;
    }

    public int image(int box) {
        if (box < 0 || box >= BOXES) {
            return NONE;
        }
        boxes[box].copyFrom(story);
        boxes[box].kept = true;
        return story.count;
    }

    public int back(int box) {
        if (box < 0 || box >= BOXES || !boxes[box].kept) {
            return NONE;
        }
        story.copyFrom(boxes[box]);
        return story.count;
    }

    public int about(int what) {
        switch (what) {
            case 0:
                return sky.stars;
            case 1:
                return story.count;
            case 2:
                return law.count;
            case 3:
                return story.time;
            case 4:
                return tape.length;
            case 5:
                return law.units;
            case 6:
                return story.specklessPixels;
            default:
                return NONE;
        }
    }

    private int kindOf(Picture seen, int dot, int k) {
        if ((seen.smears >>> dot & 1) != 0) {
            return 1;
        }
        return (story.specksOf(seen, k) >>> dot & 1) != 0 ? 2 : 0;
    }

    /** The PICTURE with its NAMINGS worked out for the POINTS that it has as known at k; null if it does not count. */
    private Picture knownAndNamed(int picture, int k) {
        Picture seen = story.known(picture, k);
        if (seen == null) {
            return null;
        }
        int points = story.pointsOf(seen, k);
        // NAMINGS change only with the POINTS, so a PICTURE keeps those that were found last.
        if (seen.namedFrom != points) {
            namer.nameAll(seen, points, sky);
        }
        return seen;
    }

    private int toldOf(Picture seen) {
        if (seen.namings != 1) {
            return 0;
        }
        return seen.oddsUpper(0) * sky.bar <= seen.oddsLower(sky.pairs()) ? 1 : 0;
    }

    private boolean findTurn(int picture, int i, int k) {
        Picture seen = knownAndNamed(picture, k);
        if (seen == null || !seen.hasNaming(i)) {
            return false;
        }
        turn.find(seen, i, sky);
        return true;
    }

    private static boolean canShift(int by) {
        return by >= -SHIFT_MOST && by <= SHIFT_MOST;
    }

    /** Leaves in followers the POINT as which each POINT of the first is FOLLOWED, or NONE; answers how many are. */
    private int followAll(Picture first, int firstPoints, Picture second, int secondPoints, int x, int y) {
        int count = Integer.bitCount(firstPoints);
        int taken = 0;
        int found = 0;
        for (int point = 0; point < count && point < DOTS; point++) {
            int dot = nthBit(firstPoints, point);
            int next = dot < 0 || dot >= DOTS ? NONE
                : second.nearestPoint(secondPoints, taken, first.x[dot] + x, first.y[dot] + y, sky.off * 10);
            followers[point] = next;
            if (next != NONE) {
                taken |= 1 << next;
                found++;
            }
        }
        return found;
    }

    private int trustOf(int picture, int k) {
        Picture seen = knownAndNamed(picture, k);
        if (seen == null) {
            return NONE;
        }
        long firstStretch = 0;
        if (seen.hasNaming(0)) {
            turn.find(seen, 0, sky);
            firstStretch = turn.stretchOr(0);
        }
        quantities[0] = seen.dots;
        quantities[1] = seen.namedPoints;
        quantities[2] = seen.namings;
        quantities[3] = Integer.bitCount(story.specksOf(seen, k));
        quantities[4] = Integer.bitCount(seen.smears);
        quantities[5] = toldOf(seen);
        quantities[6] = (int) firstStretch;
        quantities[7] = seen.allLight;
        return law.weigh(quantities);
    }

    /** The place of the n-th bit (from 0 on) that is set among those of DOTS; NONE if there are not so many. */
    private static int nthBit(int bits, int n) {
        int before = 0;
        for (int bit = 0; bit < DOTS; bit++) {
            if ((bits >>> bit & 1) != 0) {
                if (before == n) {
                    return bit;
                }
                before++;
            }
        }
        return NONE;
    }

    /** The greatest whole number whose square is no more; for squares below 2 to the 62nd. */
    private static long root(long square) {
        long root = 0;
        for (int bit = 30; bit >= 0; bit--) {
            long tried = root | 1L << bit;
            if (tried * tried <= square) {
                root = tried;
            }
        }
        return root;
    }

    private static long common(long a, long b) {
        long more = Math.abs(a);
        long less = Math.abs(b);
        // Euclid's steps on longs are fewer than a hundred.
        for (int i = 0; i < 100 && less != 0; i++) {
            long rest = more % less;
            more = less;
            less = rest;
        }
        return more;
    }

    /** A number without what two have in common. */
    private static long inLowestTerms(long number, long a, long b) {
        long both = common(a, b);
        return both == 0 ? number : number / both;
    }

    private static int square(int number) {
        return number * number;
    }

    /** The TAPE, read TOKEN by TOKEN, and the FAULT of its latest reading. */
    private static final class Text {
        static final int END = 0;
        static final int BAD = 1;
        static final int WORD = 2;
        static final int NUMBER = 3;
        static final int SIGN = 4;

        final byte[] bytes = new byte[TAPE_MOST];
        int length = 0;
        int fault = 0;
        int faultPlace = NONE;
        int kind = END;
        int place = 0;
        /** Of a NUMBER its value, of a SIGN its byte, of a WORD which own word it is, or NONE. */
        int value = 0;
        long letters = 0;
        int taken = 0;
        int takenPlace = 0;
        private int at = 0;
        private boolean ofRules = false;
        private final long[] ownWords = new long[OWN_WORDS_COUNT];

        /** The own words are kept as the numbers that next makes of letters: one comparison tells a word. */
        Text() {
            for (int i = 0; i < OWN_WORDS.length() && i < OWN_WORDS_COUNT * WORD_LETTERS; i++) {
                char sign = OWN_WORDS.charAt(i);
                if (sign != ' ') {
                    ownWords[i / WORD_LETTERS] = ownWords[i / WORD_LETTERS] * 32 + sign - 'a' + 1;
                }
            }
        }

        void put(int number) {
            for (int low = 24; low >= 0 && length < TAPE_MOST; low -= 8) {
                bytes[length] = (byte) (number >>> low);
                length++;
            }
        }

        int byteAt(int i) {
            return i >= 0 && i < length && i < TAPE_MOST ? bytes[i] : 0;
        }

        void open(boolean rules) {
            ofRules = rules;
            at = 0;
            fault = 0;
            faultPlace = NONE;
            next();
        }

        boolean refuse(int what, int where) {
            fault = what;
            faultPlace = where;
            return false;
        }

        boolean refuseHere() {
            return refuse(kind == BAD ? FAULT_NO_TOKEN : FAULT_CANT_STAND, place);
        }

        /** Goes on to the next TOKEN: its kind, its place and what it is. */
        void next() {
            while (at < length && isBlank(byteAt(at))) {
                at++;
            }
            place = at;
            int sort = sortOf(byteAt(at));
            value = 0;
            letters = 0;
            // A run that is too long for a TOKEN is read to its end all the same: no part of it is one.
            while (at < length && (sort == WORD || sort == NUMBER) && sortOf(byteAt(at)) == sort) {
                value = value * 10 + byteAt(at) - '0';
                letters = letters * 32 + byteAt(at) - 'a' + 1;
                at++;
            }
            kind = place < length ? sort : END;
            if (kind == WORD) {
                value = ownWord();
                kind = at - place > WORD_LETTERS ? BAD : WORD;
            } else if (kind == NUMBER) {
                kind = at - place > NUMBER_DIGITS || sortOf(byteAt(at)) == WORD ? BAD : NUMBER;
            } else if (kind == SIGN) {
                value = byteAt(at);
                at++;
            }
        }

        /** Which of the own words the letters are. */
        private int ownWord() {
            for (int word = 0; word < OWN_WORDS_COUNT; word++) {
                if (ownWords[word] == letters) {
                    return word;
                }
            }
            return NONE;
        }

        /** The kind of TOKEN that begins with a sign. */
        private int sortOf(int sign) {
            if (sign >= 'a' && sign <= 'z') {
                return WORD;
            }
            if (sign >= '0' && sign <= '9') {
                return NUMBER;
            }
            boolean always = sign == ';' || sign == '-';
            boolean inRules = sign == '(' || sign == ')' || sign == '<' || sign == '>' || sign == '=' || sign == '+';
            return always || ofRules && inRules ? SIGN : BAD;
        }

        static boolean isBlank(int sign) {
            return sign == 32 || sign == 10;
        }

        static boolean isDigit(int sign) {
            return sign >= '0' && sign <= '9';
        }

        boolean isAtWord(int word) {
            return kind == WORD && value == word;
        }

        boolean isAtSign(char sign) {
            return kind == SIGN && value == sign;
        }

        boolean takeWord(int word) {
            if (!isAtWord(word)) {
                return refuseHere();
            }
            next();
            return true;
        }

        boolean takeSign(char sign) {
            if (!isAtSign(sign)) {
                return refuseHere();
            }
            next();
            return true;
        }

        boolean takeNumber(int least, int most) {
            if (kind != NUMBER) {
                return refuseHere();
            }
            if (value < least || value > most) {
                return refuse(FAULT_NUMBER, place);
            }
            taken = value;
            takenPlace = place;
            next();
            return true;
        }

        /** A V: its FAULT lies at its sign, if it has one. */
        boolean takeSigned(int most) {
            int where = place;
            boolean below = isAtSign('-');
            if (below) {
                next();
            }
            if (kind != NUMBER) {
                return refuseHere();
            }
            if (value > most) {
                return refuse(FAULT_NUMBER, where);
            }
            taken = below ? -value : value;
            next();
            return true;
        }
    }

    /** THE BOOK. */
    private static final class Book {
        private final long[] names = new long[STARS];
        final int[] x = new int[STARS];
        final int[] y = new int[STARS];
        private final int[] light = new int[STARS];
        private final int[] lengths = new int[STARS * STARS];
        int stars;
        int wide;
        int unit;
        int far;
        int noise;
        int off;
        int bar;
        int step;
        int needs;
        int leanX;
        int leanY;
        int roomStar;
        int roomPair;

        Book() {
            clear();
        }

        void clear() {
            stars = 0;
            wide = 8;
            unit = 5;
            far = 40;
            noise = 2;
            off = 2;
            bar = 100;
            step = 100;
            needs = 3;
            leanX = 0;
            leanY = 0;
            roomStar = 6;
            roomPair = 4;
        }

        boolean has(int star) {
            return star >= 0 && star < stars && star < STARS;
        }

        long pairs() {
            return stars * (stars - 1L) / 2;
        }

        int lightOf(int star) {
            return has(star) ? light[star] : 0;
        }

        int skyX(int star) {
            return has(star) ? 10 * (x[star] + leanX) : 0;
        }

        int skyY(int star) {
            return has(star) ? 10 * (y[star] + leanY) : 0;
        }

        boolean isNameTold(long name) {
            for (int star = 0; star < stars && star < STARS; star++) {
                if (names[star] == name) {
                    return true;
                }
            }
            return false;
        }

        boolean isNearStar(int newX, int newY) {
            for (int star = 0; star < stars && star < STARS; star++) {
                if (square(newX - x[star]) + square(newY - y[star]) < 400) {
                    return true;
                }
            }
            return false;
        }

        boolean arePairAlong(int a, int b, int most) {
            return has(a) && has(b) && square(x[a] - x[b]) + square(y[a] - y[b]) <= square(most);
        }

        boolean isSeenFrom(int lookX, int lookY, int star) {
            return has(star) && square(x[star] - lookX) + square(y[star] - lookY) <= square(far);
        }

        void add(long name, int newX, int newY, int newLight) {
            if (stars < STARS) {
                names[stars] = name;
                x[stars] = newX;
                y[stars] = newY;
                light[stars] = newLight;
                stars++;
            }
        }

        void measure() {
            for (int a = 0; a < stars && a < STARS; a++) {
                for (int b = 0; b < a; b++) {
                    int between = (int) root(100L * (square(x[a] - x[b]) + square(y[a] - y[b])));
                    lengths[a * STARS + b] = between;
                    lengths[b * STARS + a] = between;
                }
            }
        }

        int lengthOf(int a, int b) {
            return has(a) && has(b) ? lengths[a * STARS + b] : NONE;
        }
    }

    private static final class BookReader {
        private int linesTold;

        boolean read(Text text, Book book) {
            book.clear();
            linesTold = 0;
            text.open(false);
            for (int line = 0; line < TAPE_MOST && text.kind != Text.END; line++) {
                if (!readLine(text, book) || !text.takeSign(';')) {
                    return false;
                }
            }
            book.measure();
            return true;
        }

        private boolean readLine(Text text, Book book) {
            if (text.kind != Text.WORD) {
                return text.refuseHere();
            }
            int word = text.value;
            if (word == WORD_STAR) {
                return readStar(text, book);
            }
            if (word < 0 || (linesTold >>> word & 1) != 0) {
                return text.refuseHere();
            }
            linesTold |= 1 << word;
            switch (word) {
                case WORD_EYE:
                    return readEye(text, book);
                case WORD_NOISE:
                    return readNoise(text, book);
                case WORD_OFF:
                    return readOff(text, book);
                case WORD_BAR:
                    return readBar(text, book);
                case WORD_STEP:
                    return readStep(text, book);
                case WORD_LEAN:
                    return readLean(text, book);
                case WORD_ROOM:
                    return readRoom(text, book);
                default:
                    return text.refuseHere();
            }
        }

        private boolean readStar(Text text, Book book) {
            if (book.stars >= STARS) {
                return text.refuseHere();
            }
            text.next();
            if (text.kind != Text.WORD || text.value != NONE) {
                return text.refuseHere();
            }
            long name = text.letters;
            if (book.isNameTold(name)) {
                return text.refuse(FAULT_NAME_TWICE, text.place);
            }
            text.next();
            if (!text.takeWord(WORD_AT) || !text.takeNumber(0, SKY_END)) {
                return false;
            }
            int x = text.taken;
            int where = text.takenPlace;
            if (!text.takeNumber(0, SKY_END)) {
                return false;
            }
            int y = text.taken;
            if (book.isNearStar(x, y)) {
                return text.refuse(FAULT_TOO_NEAR, where);
            }
            if (!text.takeWord(WORD_LIGHT) || !text.takeNumber(1, 99)) {
                return false;
            }
            book.add(name, x, y, text.taken);
            return true;
        }

        private boolean readEye(Text text, Book book) {
            text.next();
            if (!text.takeWord(WORD_WIDE) || !text.takeNumber(4, SIDE)) {
                return false;
            }
            book.wide = text.taken;
            if (!text.takeWord(WORD_UNIT) || !text.takeNumber(1, 9)) {
                return false;
            }
            book.unit = text.taken;
            if (!text.takeWord(WORD_FAR) || !text.takeNumber(1, 999)) {
                return false;
            }
            book.far = text.taken;
            return true;
        }

        private boolean readNoise(Text text, Book book) {
            text.next();
            if (!text.takeNumber(0, 9)) {
                return false;
            }
            book.noise = text.taken;
            return true;
        }

        private boolean readOff(Text text, Book book) {
            text.next();
            if (!text.takeNumber(0, 5)) {
                return false;
            }
            book.off = text.taken;
            return true;
        }

        private boolean readBar(Text text, Book book) {
            text.next();
            if (!text.takeNumber(1, 9999)) {
                return false;
            }
            book.bar = text.taken;
            return true;
        }

        private boolean readStep(Text text, Book book) {
            text.next();
            if (!text.takeNumber(100, 999)) {
                return false;
            }
            book.step = text.taken;
            if (!text.takeWord(WORD_NEEDS) || !text.takeNumber(1, 6)) {
                return false;
            }
            book.needs = text.taken;
            return true;
        }

        private boolean readLean(Text text, Book book) {
            text.next();
            if (!text.takeSigned(99)) {
                return false;
            }
            book.leanX = text.taken;
            if (!text.takeSigned(99)) {
                return false;
            }
            book.leanY = text.taken;
            return true;
        }

        private boolean readRoom(Text text, Book book) {
            text.next();
            if (!text.takeWord(WORD_STAR) || !text.takeNumber(1, 99)) {
                return false;
            }
            book.roomStar = text.taken;
            if (!text.takeWord(WORD_PAIR) || !text.takeNumber(1, 99)) {
                return false;
            }
            book.roomPair = text.taken;
            return true;
        }
    }

    /** What is worked out from THE BOOK alone, each part once when it is first asked for. */
    private static final class Survey {
        private final int[] sees = new int[LOOKS];
        private final int[] wants = new int[LOOKS];
        private final int[] order = new int[STARS];
        private final int[] bytesOf = new int[STARS + 1];
        int looks;
        int holes;
        int firstHole;
        private int wanting;
        private int choice;
        private int doublePairs;
        private boolean hasLooked = false;
        private boolean hasChosen = false;
        private boolean hasHeld = false;
        private boolean hasDoubles = false;

        void forget() {
            hasLooked = false;
            hasChosen = false;
            hasHeld = false;
            hasDoubles = false;
        }

        void lookAround(Book book) {
            if (hasLooked) {
                return;
            }
            hasLooked = true;
            looks = 0;
            holes = 0;
            firstHole = NONE;
            wanting = 0;
            for (int i = 0; i < LOOKS_A_SIDE && i * book.step <= SKY_END; i++) {
                for (int j = 0; j < LOOKS_A_SIDE && j * book.step <= SKY_END; j++) {
                    lookFrom(book, i * book.step, j * book.step);
                }
            }
        }

        private void lookFrom(Book book, int x, int y) {
            int seen = 0;
            for (int star = 0; star < book.stars; star++) {
                if (book.isSeenFrom(x, y, star)) {
                    seen |= 1 << star;
                }
            }
            looks++;
            int count = Integer.bitCount(seen);
            if (count < book.needs) {
                if (firstHole == NONE) {
                    firstHole = 1000 * x + y;
                }
                holes++;
            }
            addWant(seen, Math.min(count, book.needs));
        }

        /** Of what LOOKS want only that is kept which no other one's want brings along: so choosing has less to try. */
        private void addWant(int seen, int want) {
            int kept = 0;
            for (int i = 0; i < wanting && i < LOOKS; i++) {
                if ((sees[i] & ~seen) == 0 && wants[i] >= want) {
                    return;
                }
                boolean brought = (seen & ~sees[i]) == 0 && want >= wants[i];
                if (!brought) {
                    sees[kept] = sees[i];
                    wants[kept] = wants[i];
                    kept++;
                }
            }
            wanting = kept;
            if (want > 0 && wanting < LOOKS) {
                sees[wanting] = seen;
                wants[wanting] = want;
                wanting++;
            }
        }

        /** CHOSEN, as bits. */
        int choose(Book book) {
            lookAround(book);
            if (!hasChosen) {
                hasChosen = true;
                choice = 0;
                boolean found = false;
                for (int size = 0; size <= book.stars && !found; size++) {
                    found = chooseBelow(book.stars, size, 0);
                }
            }
            return choice;
        }

        /** Tries without the highest STAR first: so the first choice found is the least number of its size. */
        private boolean chooseBelow(int star, int left, int taken) {
            if (star < 0 || star > STARS_TO_CHOOSE_FROM || !canMeet(taken, (1 << star) - 1, left)) {
                return false;
            }
            if (star == 0) {
                choice = taken;
                return true;
            }
            if (chooseBelow(star - 1, left, taken)) {
                return true;
            }
            return left > 0 && chooseBelow(star - 1, left - 1, taken | 1 << (star - 1));
        }

        private boolean canMeet(int taken, int open, int left) {
            for (int i = 0; i < wanting && i < LOOKS; i++) {
                int missing = wants[i] - Integer.bitCount(sees[i] & taken);
                if (missing > left || missing > Integer.bitCount(sees[i] & open)) {
                    return false;
                }
            }
            return true;
        }

        /** HELD in so many bytes. */
        int hold(Book book, int bytes) {
            if (!hasHeld) {
                hasHeld = true;
                orderByLight(book);
                countBytes(book);
            }
            int most = 0;
            for (int count = 1; count <= book.stars && count <= STARS; count++) {
                if (bytesOf[count] <= bytes) {
                    most = count;
                }
            }
            return most;
        }

        private void orderByLight(Book book) {
            for (int star = 0; star < book.stars && star < STARS; star++) {
                int at = star;
                for (; at > 0 && book.lightOf(order[at - 1]) < book.lightOf(star); at--) {
                    order[at] = order[at - 1];
                }
                order[at] = star;
            }
        }

        private void countBytes(Book book) {
            bytesOf[0] = 0;
            for (int i = 0; i < book.stars && i < STARS; i++) {
                int more = book.roomStar;
                for (int j = 0; j < i; j++) {
                    if (book.arePairAlong(order[i], order[j], 2 * book.far)) {
                        more += book.roomPair;
                    }
                }
                bytesOf[i + 1] = bytesOf[i] + more;
            }
        }

        int countDoubles(Book book) {
            if (!hasDoubles) {
                hasDoubles = true;
                doublePairs = 0;
                for (int a = 0; a < book.stars; a++) {
                    for (int b = 0; b < a; b++) {
                        if (isDouble(book, a, b)) {
                            doublePairs++;
                        }
                    }
                }
            }
            return doublePairs;
        }

        private static boolean isDouble(Book book, int a, int b) {
            int alike = 0;
            for (int star = 0; star < book.stars; star++) {
                int differ = Math.abs(book.lengthOf(star, a) - book.lengthOf(star, b));
                if (star != a && star != b && differ <= 10 * book.off) {
                    alike++;
                }
            }
            return alike >= book.needs;
        }
    }

    /** The DOTS of a PICTURE, and the NAMINGS that were found for its POINTS last. */
    private static final class Picture {
        final int[] x = new int[DOTS];
        final int[] y = new int[DOTS];
        final int[] light = new int[DOTS];
        final int[] pixels = new int[DOTS];
        /** Of each row of PIXELS: bits of the columns where a MIDDLE lies. */
        private final int[] middles = new int[SIDE];
        int dots = 0;
        int smears = 0;
        int allLight = 0;

        final int[] pairFits = new int[POINT_PAIRS];
        /** Six bits for each POINT's STAR. */
        private final long[] found = new long[NAMINGS];
        int namedFrom = NONE;
        int namings = 0;
        int namedPoints = 0;

        /** DOTS come in order of their first PIXEL; so of like ones the earlier one stays ahead. */
        void insert(int newX, int newY, int newLight, int newPixels, boolean smear) {
            int at = Math.min(dots, DOTS);
            while (at > 0 && isAhead(newX, newY, newLight, at - 1)) {
                at--;
            }
            if (at >= DOTS) {
                return;
            }
            dots = Math.min(dots + 1, DOTS);
            for (int i = dots - 1; i > at; i--) {
                x[i] = x[i - 1];
                y[i] = y[i - 1];
                light[i] = light[i - 1];
                pixels[i] = pixels[i - 1];
            }
            x[at] = newX;
            y[at] = newY;
            light[at] = newLight;
            pixels[at] = newPixels;
            int below = (1 << at) - 1;
            smears = (smears & ~below) << 1 | smears & below | (smear ? 1 << at : 0);
        }

        private boolean isAhead(int newX, int newY, int newLight, int dot) {
            if (newLight != light[dot]) {
                return newLight > light[dot];
            }
            return newY != y[dot] ? newY < y[dot] : newX < x[dot];
        }

        /** What hangs on which DOTS count is worked out when all have come. */
        void finish() {
            smears &= allDots();
            for (int dot = 0; dot < dots && dot < DOTS; dot++) {
                allLight += light[dot];
                int row = y[dot] / 10;
                if (row >= 0 && row < SIDE) {
                    middles[row] |= 1 << x[dot] / 10;
                }
            }
        }

        int allDots() {
            return (1 << dots) - 1;
        }

        boolean hasMiddleIn(int column, int row) {
            return row >= 0 && row < SIDE && (middles[row] >>> column & 1) != 0;
        }

        /** The POINT not taken yet that is nearest to a place; NONE if none is so near. */
        int nearestPoint(int points, int taken, int toX, int toY, int most) {
            int nearest = NONE;
            int least = most;
            int point = 0;
            for (int dot = 0; dot < dots && dot < DOTS; dot++) {
                if ((points >>> dot & 1) == 0) {
                    continue;
                }
                int away = Math.abs(x[dot] - toX) + Math.abs(y[dot] - toY);
                boolean nearer = nearest == NONE ? away <= least : away < least;
                if ((taken >>> point & 1) == 0 && nearer) {
                    nearest = point;
                    least = away;
                }
                point++;
            }
            return nearest;
        }

        boolean hasNaming(int i) {
            return i >= 0 && i < namings && i < NAMINGS;
        }

        void addNaming(long stars) {
            if (namings < NAMINGS) {
                found[namings] = stars;
                namings++;
            }
        }

        int starOf(int i, int point) {
            if (!hasNaming(i) || point < 0 || point >= POINTS) {
                return NONE;
            }
            int star = (int) (found[i] >>> 6 * point & 63);
            return star == UNNAMED ? NONE : star;
        }

        /** The DOT that the first NAMING names by a STAR. */
        int dotNamed(int star) {
            for (int point = 0; point < POINTS; point++) {
                if (starOf(0, point) == star) {
                    return nthBit(namedFrom, point);
                }
            }
            return NONE;
        }

        long oddsUpper(int i) {
            long upper = 1;
            int before = NONE;
            for (int point = 0; point < POINTS; point++) {
                if (starOf(i, point) != NONE) {
                    upper *= before == NONE ? 1 : pairFits[Namer.pairOf(before, point)];
                    before = point;
                }
            }
            return upper;
        }

        long oddsLower(long starPairs) {
            long lower = 1;
            for (int named = 1; named < namedPoints && named < POINTS; named++) {
                lower *= starPairs;
            }
            return lower;
        }
    }

    private static final class PictureReader {
        private final int[] lights = new int[PIXELS];
        private final int[] reached = new int[PIXELS];
        private int reachedCount;
        private int noise;
        private int light;
        private int sumX;
        private int sumY;
        private int left;
        private int right;
        private int above;
        private int below;

        /** The PICTURE that the text is; null if it has a FAULT. */
        Picture read(Text text, Book book) {
            text.fault = 0;
            text.faultPlace = NONE;
            Arrays.fill(lights, 0);
            if (!readRows(text, book.wide)) {
                return null;
            }
            noise = book.noise;
            Picture picture = new Picture();
            for (int pixel = 0; pixel < PIXELS; pixel++) {
                if (lights[pixel] > noise) {
                    gather(pixel, picture);
                }
            }
            picture.finish();
            return picture;
        }

        private boolean readRows(Text text, int wide) {
            int row = 0;
            int column = 0;
            for (int i = 0; i < text.length; i++) {
                int sign = text.byteAt(i);
                if (Text.isBlank(sign)) {
                    continue;
                }
                boolean digit = Text.isDigit(sign);
                if (!digit && sign != ';') {
                    return text.refuse(FAULT_NO_TOKEN, i);
                }
                if (row >= wide || row >= SIDE || digit == column >= wide) {
                    return text.refuse(FAULT_CANT_STAND, i);
                }
                if (digit && column < SIDE) {
                    lights[row * SIDE + column] = sign - '0';
                    column++;
                } else {
                    row++;
                    column = 0;
                }
            }
            return row == wide || text.refuse(FAULT_CANT_STAND, text.length);
        }

        private void gather(int first, Picture picture) {
            reachedCount = 0;
            light = 0;
            sumX = 0;
            sumY = 0;
            left = SIDE;
            right = 0;
            above = SIDE;
            below = 0;
            reach(first % SIDE, first / SIDE);
            for (int i = 0; i < reachedCount && i < PIXELS; i++) {
                int column = reached[i] % SIDE;
                int row = reached[i] / SIDE;
                reach(column - 1, row);
                reach(column + 1, row);
                reach(column, row - 1);
                reach(column, row + 1);
            }
            boolean smear = right - left >= SMEAR_REACH || below - above >= SMEAR_REACH;
            if (light > 0) {
                picture.insert(sumX / light, sumY / light, light, reachedCount, smear);
            }
        }

        private void reach(int column, int row) {
            if (column < 0 || column >= SIDE || row < 0 || row >= SIDE || reachedCount >= PIXELS) {
                return;
            }
            int pixel = row * SIDE + column;
            int here = lights[pixel];
            if (here <= noise) {
                return;
            }
            // A PIXEL without light is never reached again.
            lights[pixel] = 0;
            reached[reachedCount] = pixel;
            reachedCount++;
            light += here;
            sumX += (10 * column + 5) * here;
            sumY += (10 * row + 5) * here;
            left = Math.min(left, column);
            right = Math.max(right, column);
            above = Math.min(above, row);
            below = Math.max(below, row);
        }
    }

    /** All that is told: PICTURES, PIXELS that are no SPECK, the TIME. */
    private static final class Story {
        private final Picture[] pictures = new Picture[PICTURES];
        private final int[] toldAt = new int[PICTURES];
        /** NONE while it is not UNTOLD. */
        private final int[] untoldAt = new int[PICTURES];
        private final int[] specklessColumns = new int[SIDE];
        int count = 0;
        int time = 0;
        int specklessPixels = 0;
        boolean kept = false;

        /** The TIME goes on behind another BOOK, too. */
        void clear() {
            count = 0;
            specklessPixels = 0;
            Arrays.fill(specklessColumns, 0);
        }

        void copyFrom(Story other) {
            for (int i = 0; i < PICTURES; i++) {
                pictures[i] = other.pictures[i];
            }
            System.arraycopy(other.toldAt, 0, toldAt, 0, PICTURES);
            System.arraycopy(other.untoldAt, 0, untoldAt, 0, PICTURES);
            System.arraycopy(other.specklessColumns, 0, specklessColumns, 0, SIDE);
            count = other.count;
            time = other.time;
            specklessPixels = other.specklessPixels;
        }

        int add(Picture seen) {
            if (count >= PICTURES) {
                return NONE;
            }
            pictures[count] = seen;
            toldAt[count] = time;
            untoldAt[count] = NONE;
            count++;
            return count - 1;
        }

        boolean drop(int picture) {
            if (picture < 0 || picture >= count || picture >= PICTURES || untoldAt[picture] != NONE) {
                return false;
            }
            untoldAt[picture] = time;
            return true;
        }

        /** The PICTURE if it counts as known at k, else null. */
        Picture known(int picture, int k) {
            if (picture < 0 || picture >= count || picture >= PICTURES || toldAt[picture] > k) {
                return null;
            }
            boolean untold = untoldAt[picture] != NONE && untoldAt[picture] <= k;
            return untold ? null : pictures[picture];
        }

        boolean setSpeckless(int column, int row, boolean is) {
            if (row < 0 || row >= SIDE || isSpeckless(column, row) == is) {
                return false;
            }
            specklessColumns[row] ^= 1 << column;
            specklessPixels += is ? 1 : -1;
            return true;
        }

        private boolean isSpeckless(int column, int row) {
            return row >= 0 && row < SIDE && (specklessColumns[row] >>> column & 1) != 0;
        }

        /** The DOTS that are SPECKS, as bits. */
        int specksOf(Picture seen, int k) {
            int specks = 0;
            for (int dot = 0; dot < seen.dots && dot < DOTS; dot++) {
                int column = seen.x[dot] / 10;
                int row = seen.y[dot] / 10;
                boolean smear = (seen.smears >>> dot & 1) != 0;
                if (!smear && !isSpeckless(column, row) && stays(column, row, k)) {
                    specks |= 1 << dot;
                }
            }
            return specks;
        }

        private boolean stays(int column, int row, int k) {
            int counting = 0;
            for (int picture = 0; picture < count; picture++) {
                Picture other = known(picture, k);
                if (other != null) {
                    counting++;
                    if (!other.hasMiddleIn(column, row)) {
                        return false;
                    }
                }
            }
            return counting >= SPECK_PICTURES;
        }

        /** The DOTS that are POINTS, as bits. */
        int pointsOf(Picture seen, int k) {
            return seen.allDots() & ~seen.smears & ~specksOf(seen, k);
        }
    }

    /** Finds all NAMINGS of a PICTURE. */
    private static final class Namer {
        /** Of two POINTS and the STAR of the earlier one: bits of the STARS that the later one may have. */
        private final int[] fits = new int[POINT_PAIRS * STARS];
        private final int[] x = new int[POINTS];
        private final int[] y = new int[POINTS];
        private final int[] stars = new int[POINTS];
        private int points;
        private int goal;

        static int pairOf(int earlier, int later) {
            int pair = later * (later - 1) / 2 + earlier;
            return pair >= 0 && pair < POINT_PAIRS ? pair : 0;
        }

        void nameAll(Picture picture, int pointBits, Book book) {
            picture.namedFrom = pointBits;
            picture.namings = 0;
            picture.namedPoints = 0;
            place(picture, book);
            for (int later = 1; later < points; later++) {
                for (int earlier = 0; earlier < later; earlier++) {
                    findFits(picture, earlier, later, book);
                }
            }
            for (int size = Math.min(points, book.stars); size >= NAMED_LEAST && picture.namings == 0; size--) {
                goal = size;
                nameFrom(0, 0, picture, book);
                picture.namedPoints = picture.namings == 0 ? 0 : size;
            }
        }

        private void place(Picture picture, Book book) {
            points = Math.min(POINTS, Integer.bitCount(picture.namedFrom));
            for (int point = 0; point < points && point < POINTS; point++) {
                int dot = nthBit(picture.namedFrom, point);
                if (dot >= 0 && dot < DOTS) {
                    x[point] = picture.x[dot] * book.unit;
                    y[point] = picture.y[dot] * book.unit;
                }
            }
        }

        private void findFits(Picture picture, int earlier, int later, Book book) {
            int pair = pairOf(earlier, later);
            int between = (int) root(square(x[earlier] - x[later]) + square(y[earlier] - y[later]));
            int count = 0;
            for (int star = 0; star < STARS; star++) {
                fits[pair * STARS + star] = 0;
            }
            for (int a = 1; a < book.stars && a < STARS; a++) {
                for (int b = 0; b < a; b++) {
                    if (Math.abs(book.lengthOf(a, b) - between) <= 10 * book.off) {
                        fits[pair * STARS + a] |= 1 << b;
                        fits[pair * STARS + b] |= 1 << a;
                        count++;
                    }
                }
            }
            picture.pairFits[pair] = count;
        }

        /** STARS in order and none behind them: so NAMINGS are found in theirs. */
        private void nameFrom(int point, int named, Picture picture, Book book) {
            if (picture.namings >= NAMINGS || named + points - point < goal) {
                return;
            }
            if (point >= points || point >= POINTS) {
                picture.addNaming(packed());
                return;
            }
            int open = named < goal ? openStars(point, book) : 0;
            for (int tried = 0; tried < STARS && open != 0; tried++) {
                int star = Integer.numberOfTrailingZeros(open);
                open &= open - 1;
                if (book.has(star) && liesAlike(point, star, book)) {
                    stars[point] = star;
                    nameFrom(point + 1, named + 1, picture, book);
                }
            }
            stars[point] = UNNAMED;
            nameFrom(point + 1, named, picture, book);
        }

        private long packed() {
            long all = 0;
            for (int point = 0; point < POINTS; point++) {
                long star = point < points ? stars[point] : UNNAMED;
                all |= star << 6 * point;
            }
            return all;
        }

        private int openStars(int point, Book book) {
            int open = book.stars < STARS ? (1 << book.stars) - 1 : -1;
            for (int before = 0; before < point && before < POINTS; before++) {
                if (book.has(stars[before])) {
                    open &= fits[pairOf(before, point) * STARS + stars[before]];
                }
            }
            return open;
        }

        private boolean liesAlike(int point, int star, Book book) {
            for (int b = 1; b < point && b < POINTS; b++) {
                for (int a = 0; a < b && stars[b] < STARS; a++) {
                    if (stars[a] < STARS && pointSide(a, b, point) != starSide(stars[a], stars[b], star, book)) {
                        return false;
                    }
                }
            }
            return true;
        }

        private int pointSide(int a, int b, int c) {
            return Integer.signum((x[b] - x[a]) * (y[c] - y[a]) - (y[b] - y[a]) * (x[c] - x[a]));
        }

        private static int starSide(int a, int b, int c, Book book) {
            int toB = book.x[b] - book.x[a];
            int downB = book.y[b] - book.y[a];
            return Integer.signum(toB * (book.y[c] - book.y[a]) - downB * (book.x[c] - book.x[a]));
        }
    }

    /** The TURN of a NAMING. */
    private static final class Turn {
        long a;
        long c;
        long s;
        private long count;
        private long pointsX;
        private long pointsY;
        private long starsX;
        private long starsY;

        void find(Picture picture, int naming, Book book) {
            clear();
            for (int point = 0; point < POINTS; point++) {
                int star = picture.starOf(naming, point);
                int dot = star == NONE ? NONE : nthBit(picture.namedFrom, point);
                if (dot >= 0 && dot < DOTS) {
                    count++;
                    pointsX += picture.x[dot] * book.unit;
                    pointsY += picture.y[dot] * book.unit;
                    starsX += book.skyX(star);
                    starsY += book.skyY(star);
                }
            }
            for (int point = 0; point < POINTS; point++) {
                int star = picture.starOf(naming, point);
                int dot = star == NONE ? NONE : nthBit(picture.namedFrom, point);
                if (dot >= 0 && dot < DOTS) {
                    addPair(picture.x[dot] * book.unit, picture.y[dot] * book.unit, book.skyX(star), book.skyY(star));
                }
            }
        }

        private void clear() {
            a = 0;
            c = 0;
            s = 0;
            count = 0;
            pointsX = 0;
            pointsY = 0;
            starsX = 0;
            starsY = 0;
        }

        /** All is taken times the count, so that the means are whole. */
        private void addPair(int pointX, int pointY, int starX, int starY) {
            long ax = count * pointX - pointsX;
            long ay = count * pointY - pointsY;
            long bx = count * starX - starsX;
            long by = count * starY - starsY;
            a += ax * ax + ay * ay;
            c += ax * bx + ay * by;
            s += ax * by - ay * bx;
        }

        long lookUpperX(long middle) {
            return starsX * a + c * (count * middle - pointsX) - s * (count * middle - pointsY);
        }

        long lookUpperY(long middle) {
            return starsY * a + s * (count * middle - pointsX) + c * (count * middle - pointsY);
        }

        long lookLower() {
            return count * a;
        }

        long stretchOr(long none) {
            return a == 0 ? none : root(c * c + s * s) * 1000 / a;
        }
    }

    /** RULES: behind one another in the order in which a stack of numbers works them out. */
    private static final class Rules {
        // Numbers of 0 and above stand for themselves, those from -8 to -1 for the quantities.
        static final int OR = -11;
        static final int AND = -12;
        static final int NOT = -13;
        static final int LESS = -14;
        static final int MORE = -15;
        static final int LIKE = -16;
        static final int PLUS = -17;
        static final int MINUS = -18;

        private final int[] code = new int[SHORT_TEXT_MOST];
        private final int[] ends = new int[RULES];
        private final int[] trusts = new int[RULES];
        private final int[] stack = new int[UNITS + 1];
        int count = 0;
        int units = 0;
        private int size = 0;

        void clear() {
            count = 0;
            units = 0;
            size = 0;
        }

        void emit(int step) {
            if (size < SHORT_TEXT_MOST) {
                code[size] = step;
                size++;
            }
        }

        void endRule(int trust) {
            if (count < RULES) {
                ends[count] = size;
                trusts[count] = trust;
                count++;
            }
        }

        /** The TRUST of the first rule that holds. */
        int weigh(int[] quantities) {
            int from = 0;
            for (int rule = 0; rule < count && rule < RULES; rule++) {
                if (worthOf(from, ends[rule], quantities) != 0) {
                    return trusts[rule];
                }
                from = ends[rule];
            }
            return 0;
        }

        private int worthOf(int from, int to, int[] quantities) {
            int height = 0;
            for (int i = from; i < to && i < SHORT_TEXT_MOST; i++) {
                int step = code[i];
                if (step > OR) {
                    height = push(step, height, quantities);
                } else if (step == NOT) {
                    turnOver(height);
                } else {
                    height = join(step, height);
                }
            }
            return height > 0 ? stack[0] : 0;
        }

        private int push(int step, int height, int[] quantities) {
            if (height >= stack.length) {
                return height;
            }
            int quantity = -1 - step;
            stack[height] = quantity >= 0 && quantity < quantities.length ? quantities[quantity] : step;
            return height + 1;
        }

        private void turnOver(int height) {
            if (height > 0 && height <= stack.length) {
                stack[height - 1] = stack[height - 1] == 0 ? 1 : 0;
            }
        }

        private int join(int step, int height) {
            if (height < 2 || height > stack.length) {
                return height;
            }
            stack[height - 2] = joined(step, stack[height - 2], stack[height - 1]);
            return height - 1;
        }

        private static int joined(int step, int a, int b) {
            switch (step) {
                case OR:
                    return a != 0 || b != 0 ? 1 : 0;
                case AND:
                    return a != 0 && b != 0 ? 1 : 0;
                case LESS:
                    return a < b ? 1 : 0;
                case MORE:
                    return a > b ? 1 : 0;
                case LIKE:
                    return a == b ? 1 : 0;
                case PLUS:
                    return a + b;
                default:
                    return a - b;
            }
        }
    }

    private static final class RulesReader {
        boolean read(Text text, Rules rules) {
            rules.clear();
            text.open(true);
            for (int i = 0; i < SHORT_TEXT_MOST && text.kind != Text.END; i++) {
                if (!readRule(text, rules)) {
                    return false;
                }
            }
            return true;
        }

        private boolean readRule(Text text, Rules rules) {
            if (rules.count >= RULES) {
                return text.refuseHere();
            }
            if (!text.takeWord(WORD_TRUST) || !text.takeNumber(0, 99)) {
                return false;
            }
            int trust = text.taken;
            if (!text.takeWord(WORD_WHEN) || !readEither(text, rules, 0) || !text.takeSign(';')) {
                return false;
            }
            rules.endRule(trust);
            return true;
        }

        /** An e, within so many others. */
        private boolean readEither(Text text, Rules rules, int within) {
            if (!readBoth(text, rules, within)) {
                return false;
            }
            for (int i = 0; i < SHORT_TEXT_MOST && text.isAtWord(WORD_OR); i++) {
                text.next();
                if (!readBoth(text, rules, within)) {
                    return false;
                }
                rules.emit(Rules.OR);
            }
            return true;
        }

        private boolean readBoth(Text text, Rules rules, int within) {
            if (!readOne(text, rules, within)) {
                return false;
            }
            for (int i = 0; i < SHORT_TEXT_MOST && text.isAtWord(WORD_AND); i++) {
                text.next();
                if (!readOne(text, rules, within)) {
                    return false;
                }
                rules.emit(Rules.AND);
            }
            return true;
        }

        private boolean readOne(Text text, Rules rules, int within) {
            if (text.isAtWord(WORD_NOT)) {
                if (within > WITHIN_MOST) {
                    return text.refuseHere();
                }
                text.next();
                if (!readOne(text, rules, within + 1)) {
                    return false;
                }
                rules.emit(Rules.NOT);
                return true;
            }
            if (!readSum(text, rules, within)) {
                return false;
            }
            int step = comparisonAt(text);
            if (step == 0) {
                return true;
            }
            text.next();
            if (!readSum(text, rules, within)) {
                return false;
            }
            rules.emit(step);
            return true;
        }

        private static int comparisonAt(Text text) {
            if (text.isAtSign('<')) {
                return Rules.LESS;
            }
            if (text.isAtSign('>')) {
                return Rules.MORE;
            }
            return text.isAtSign('=') ? Rules.LIKE : 0;
        }

        private boolean readSum(Text text, Rules rules, int within) {
            if (!readUnit(text, rules, within)) {
                return false;
            }
            for (int i = 0; i < SHORT_TEXT_MOST && (text.isAtSign('+') || text.isAtSign('-')); i++) {
                int step = text.isAtSign('+') ? Rules.PLUS : Rules.MINUS;
                text.next();
                if (!readUnit(text, rules, within)) {
                    return false;
                }
                rules.emit(step);
            }
            return true;
        }

        private boolean readUnit(Text text, Rules rules, int within) {
            boolean bracket = text.isAtSign('(');
            boolean number = text.kind == Text.NUMBER;
            int quantity = quantityAt(text);
            if (!bracket && !number && quantity == NONE || rules.units >= UNITS || bracket && within > WITHIN_MOST) {
                return text.refuseHere();
            }
            rules.units++;
            if (!bracket) {
                rules.emit(number ? text.value : -1 - quantity);
                text.next();
                return true;
            }
            text.next();
            return readEither(text, rules, within + 1) && text.takeSign(')');
        }

        /** Which of the quantities of a PICTURE stands here. */
        private static int quantityAt(Text text) {
            if (text.kind != Text.WORD) {
                return NONE;
            }
            if (text.value == WORD_LIGHT) {
                return QUANTITIES - 1;
            }
            return text.value >= WORD_DOTS && text.value <= WORD_STRETCH ? text.value - WORD_DOTS : NONE;
        }
    }
}
