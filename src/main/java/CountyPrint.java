import java.util.NoSuchElementException;

/**
 * One print goes round the halls of a county; each hall takes out what it can't bear and keeps it.
 *
 * <p>A row of shots is held as bits (bit n: the shot of number n). That is enough, for no row ever
 * stands in another order than that of the numbers: halls only take out, and what is given back
 * goes ahead of all greater numbers.
 */
public final class CountyPrint {
    public static final int NONE = -1;

    private static final int OTHERS = -2;
    private static final int MAX_SIGNS = 1000;
    private static final int MAX_SHOTS = 10;
    private static final int MAX_HALLS = 6;
    private static final int MAX_LINES = 40;
    private static final int MAX_UNDO = 16;
    private static final int MAX_SEEN = 8;
    private static final int MAX_SHOWS = 99;
    private static final int MAX_SEED = 9999;
    private static final int MAX_BID = 9;
    private static final int MARKS = 4;
    private static final int SORTS = 10;

    private static final int PLAIN = 0;
    private static final int KEEN = 1;
    private static final int CHAPEL = 2;
    private static final int MINER = 3;

    private static final int SHOW = 0;
    private static final int GIVE = 1;
    private static final int TRADE = 2;
    private static final int TURN = 3;

    private final Tape tape;
    private final Reader reader;
    private County land;
    private County landDraft;
    private Plan plan;
    private Plan planDraft;
    private final Travel now;
    private final Travel trial;
    private final Past past;
    private final Sightings sightings;
    private final Mark[] marks;
    private final Ranking ranking;
    private final Draws draws;
    /** What each hall would show of the print: filled anew by each call that uses it. */
    private final int[] rows;

    public CountyPrint() {
        land = new County();
        landDraft = new County();
        tape = new Tape();
        reader = new Reader(tape, land);
        plan = new Plan();
        planDraft = new Plan();
        now = new Travel();
        trial = new Travel();
        past = new Past();
        sightings = new Sightings();
        marks = new Mark[MARKS];
        for (int i = 0; i < MARKS; i++) {
            marks[i] = new Mark();
        }
        ranking = new Ranking();
        draws = new Draws();
        rows = new int[MAX_HALLS];
    }

    public int feed(long a, long b, long c) {
        tape.addBytes(a);
        tape.addBytes(b);
        tape.addBytes(c);
        return tape.size;
    }

    public int county() {
        int fault = reader.readCounty(landDraft);
        if (fault == 0) {
            County old = land;
            land = landDraft;
            landDraft = old;
            land.judgeAll();
            beginAnew();
        }
        return fault;
    }

    public int round() {
        int fault = reader.readPlan(land, planDraft);
        if (fault == 0) {
            Plan old = plan;
            plan = planDraft;
            planDraft = old;
        }
        return fault;
    }

    public int shot(int shot, int what) {
        if (!land.isShot(shot)) {
            return OTHERS;
        }
        switch (what) {
            case 0:
                return land.sorts[shot];
            case 1:
                return land.lengths[shot];
            case 2:
                return land.needs[shot];
            case 3:
                return (now.print >> shot) & 1;
            default:
                return OTHERS;
        }
    }

    public int hall(int hall, int what) {
        if (!land.isHall(hall)) {
            return NONE;
        }
        switch (what) {
            case 0:
                return land.kinds[hall];
            case 1:
                return now.drawers[hall];
            case 2:
                return now.swapPlace(land, hall);
            case 3:
                return land.takenOut(hall, now.print);
            default:
                return NONE;
        }
    }

    public int show() {
        if (land.hallCount == 0) {
            return NONE;
        }
        past.keep(now);
        return land.minutesOf(now.showNext(land));
    }

    public int give(int hall, int shot) {
        if (!liesIn(hall, shot)) {
            return NONE;
        }
        past.keep(now);
        now.giveBack(hall, shot);
        return Integer.bitCount(now.print);
    }

    public boolean trade(int hall, int other, int shot) {
        if (!land.isHall(other) || hall == other || !liesIn(hall, shot)) {
            return false;
        }
        past.keep(now);
        now.handOver(hall, other, shot);
        return true;
    }

    public int turn() {
        past.keep(now);
        now.turnRound();
        return nextHall();
    }

    public boolean undo() {
        return past.takeBack(now);
    }

    public int judged(int what) {
        if (what < 0 || what > 2) {
            return OTHERS;
        }
        int impossible = NONE;
        int senseless = NONE;
        int together = 0;
        trial.begin(land.film());
        for (int line = 0; line < plan.lines; line++) {
            if (!plan.isPossible(line, land, trial)) {
                impossible = impossible == NONE ? line : impossible;
                continue;
            }
            plan.follow(line, land, trial);
            if (plan.deeds[line] == SHOW) {
                together += land.minutesOf(trial.print);
                if (senseless == NONE && !land.makesSense(trial.print)) {
                    senseless = line;
                }
            }
        }
        return what == 0 ? impossible : what == 1 ? senseless : together;
    }

    public int shown(int hall, int i) {
        int row = rowShownAt(hall);
        return row == NONE ? NONE : land.shotAt(row, i);
    }

    public int minutes(int hall) {
        int row = rowShownAt(hall);
        return row == NONE ? NONE : land.minutesOf(row);
    }

    public int silly() {
        int row = now.print;
        for (int place = nextPlace(); place < land.hallCount; place++) {
            int hall = now.swapPlace(land, place);
            row &= ~land.takenOut(hall, row);
            if (!land.makesSense(row)) {
                return hall;
            }
        }
        return NONE;
    }

    public int lasts() {
        trial.copy(now);
        for (int shows = 0; shows <= MAX_SHOWS; shows++) {
            if (trial.print == 0) {
                return shows;
            }
            if (land.hallCount == 0) {
                return NONE;
            }
            trial.showNext(land);
        }
        return NONE;
    }

    public boolean sense() {
        return land.makesSense(now.print);
    }

    public int gone(int shot) {
        if (!land.isShot(shot)) {
            return NONE;
        }
        int row = now.print;
        for (int place = nextPlace(); place < land.hallCount; place++) {
            int hall = now.swapPlace(land, place);
            int taken = land.takenOut(hall, row);
            if (((taken >> shot) & 1) == 1) {
                return hall;
            }
            row &= ~taken;
        }
        return NONE;
    }

    public int saves(int hall) throws NoSuchElementException {
        if (!isAhead(hall)) {
            throw new NoSuchElementException("not one of the halls that are still to come");
        }
        return minutesTogether(hall) - minutesTogether(NONE);
    }

    public int kin(int shot) {
        return land.isShot(shot) ? land.allNeeds(shot) : NONE;
    }

    public int hoard(int sort) {
        if (sort < 0 || sort >= SORTS) {
            return NONE;
        }
        int alike = land.shotsOfSort(sort);
        int most = 0;
        int holder = NONE;
        for (int hall = 0; hall < land.hallCount; hall++) {
            int held = land.minutesOf(now.drawers[hall] & alike);
            if (held > most) {
                most = held;
                holder = hall;
            }
        }
        return holder;
    }

    public int longest() {
        int most = 0;
        for (int first = 0; first < land.shotCount; first++) {
            most = Math.max(most, land.unlikeFrom(now.print, first));
        }
        return most;
    }

    public int order(int what) {
        int ahead = land.hallCount - nextPlace();
        if (what < NONE || what >= ahead) {
            return OTHERS;
        }
        ranking.find(land, hallsAhead(), now.print);
        return what == NONE ? ranking.most : ranking.best[what];
    }

    public int ride() {
        fillRows();
        int film = land.film();
        int fewest = NONE;
        for (int set = 0; set < 1 << land.hallCount; set++) {
            boolean isFewer = fewest == NONE || Integer.bitCount(set) < Integer.bitCount(fewest);
            if (isFewer && seenBy(set) == film) {
                fewest = set;
            }
        }
        return fewest;
    }

    public int other(int what) {
        if (what != 0 && what != 1) {
            return NONE;
        }
        int drawn = now.drawn();
        int best = 0;
        for (int set = 0; set <= drawn; set++) {
            if ((set & ~drawn) == 0 && land.makesSense(set) && land.isLonger(set, best)) {
                best = set;
            }
        }
        return what == 0 ? land.minutesOf(best) : best;
    }

    public int mends() {
        int drawn = now.drawn();
        int fewest = NONE;
        for (int set = 0; set <= drawn; set++) {
            boolean isFewer = fewest == NONE || Integer.bitCount(set) < Integer.bitCount(fewest);
            if (isFewer && (set & ~drawn) == 0 && land.makesSense(now.print | set)) {
                fewest = set;
            }
        }
        return fewest;
    }

    public int where(int shot) {
        return land.isShot(shot) ? now.holderOf(shot) : NONE;
    }

    public int taste(int hall, int other) {
        if (!land.isHall(hall) || !land.isHall(other) || hall == other) {
            return NONE;
        }
        int alike = 0;
        for (int shot = 0; shot < land.shotCount; shot++) {
            // What is asked is the law alone: a miner's hall hates what it then leaves in.
            if (land.hatedIn(hall, 1 << shot) == land.hatedIn(other, 1 << shot)) {
                alike++;
            }
        }
        return alike;
    }

    public int mild() {
        int fewest = 0;
        int mildest = NONE;
        for (int hall = 0; hall < land.hallCount; hall++) {
            int out = land.minutesOf(land.takenOut(hall, land.film()));
            if (mildest == NONE || out < fewest) {
                fewest = out;
                mildest = hall;
            }
        }
        return mildest;
    }

    public boolean see(int shot, boolean isShown) {
        return land.isShot(shot) && sightings.add(shot, isShown);
    }

    public int halls() {
        fillRows();
        int set = 0;
        for (int hall = 0; hall < land.hallCount; hall++) {
            if (sightings.fit(rows[hall])) {
                set |= 1 << hall;
            }
        }
        return set;
    }

    public int ask() {
        int candidates = halls();
        int least = Integer.bitCount(candidates);
        int best = NONE;
        for (int shot = 0; shot < land.shotCount; shot++) {
            int greater = greaterPart(candidates, shot);
            if (greater < least) {
                least = greater;
                best = shot;
            }
        }
        return best;
    }

    public int rests(int high, int low, int alone, int what) throws NoSuchElementException {
        if (!isBid(high) || !isBid(low) || !isBid(alone) || what < NONE) {
            throw new NoSuchElementException("no such bid");
        }
        int found = 0;
        for (int choices = 0; choices < 4; choices++) {
            if (isAtRest(high, low, alone, choices)) {
                if (found == what) {
                    return choices;
                }
                found++;
            }
        }
        if (what != NONE) {
            throw new NoSuchElementException("no bid at rest of that number");
        }
        return found;
    }

    public int share(int hall) {
        if (!land.isHall(hall)) {
            return NONE;
        }
        int all = land.minutesOf(now.drawn());
        return all == 0 ? 0 : land.minutesOf(now.drawers[hall]) * 1000 / all;
    }

    public int tours(int seed, int shows, int what) {
        boolean isTour = seed >= 0 && seed <= MAX_SEED && shows >= 1 && shows <= MAX_SHOWS;
        if (!isTour || what < 0 || what > 2) {
            return NONE;
        }
        int together = 0;
        int senseless = 0;
        trial.copy(now);
        draws.begin(seed);
        for (int i = 0; i < shows && land.hallCount > 0; i++) {
            trial.showAt(land, draws.below(land.hallCount));
            together += land.minutesOf(trial.print);
            senseless += land.makesSense(trial.print) ? 0 : 1;
            giveBackByDraw();
        }
        return what == 0 ? together : what == 1 ? senseless : trial.print;
    }

    public boolean mark(int mark, boolean back) {
        if (mark < 0 || mark >= MARKS) {
            return false;
        }
        if (!back) {
            marks[mark].lay(now, plan, sightings);
            return true;
        }
        if (!marks[mark].isLaid) {
            return false;
        }
        marks[mark].goBack(now, plan, sightings);
        past.forget();
        return true;
    }

    public int count(int what) {
        switch (what) {
            case 0:
                return land.shotCount;
            case 1:
                return land.hallCount;
            case 2:
                return now.print;
            case 3:
                return land.minutesOf(now.print);
            case 4:
                return nextHall();
            case 5:
                return now.toursOver;
            case 6:
                return now.drawn();
            case 7:
                return plan.lines;
            case 8:
                return sightings.size;
            case 9:
                return past.size;
            case 10:
                return tape.size;
            default:
                return NONE;
        }
    }

    private void beginAnew() {
        now.begin(land.film());
        plan.clear();
        sightings.size = 0;
        past.forget();
        for (int i = 0; i < MARKS; i++) {
            marks[i].isLaid = false;
        }
    }

    private boolean liesIn(int hall, int shot) {
        return land.isHall(hall) && land.isShot(shot) && now.holds(hall, shot);
    }

    private int nextHall() {
        return land.hallCount == 0 ? NONE : now.next;
    }

    /** Without halls this is 0, as is the number of halls, so that nothing is ahead. */
    private int nextPlace() {
        return land.hallCount == 0 ? 0 : now.swapPlace(land, now.next);
    }

    private boolean isAhead(int hall) {
        return land.isHall(hall) && now.swapPlace(land, hall) >= nextPlace();
    }

    private int hallsAhead() {
        int set = 0;
        for (int place = nextPlace(); place < land.hallCount; place++) {
            set |= 1 << now.swapPlace(land, place);
        }
        return set;
    }

    private int rowShownAt(int hall) {
        if (!isAhead(hall)) {
            return NONE;
        }
        int row = now.print;
        int last = now.swapPlace(land, hall);
        for (int place = nextPlace(); place <= last; place++) {
            row &= ~land.takenOut(now.swapPlace(land, place), row);
        }
        return row;
    }

    private int minutesTogether(int spared) {
        int row = now.print;
        int together = 0;
        for (int place = nextPlace(); place < land.hallCount; place++) {
            int hall = now.swapPlace(land, place);
            if (hall != spared) {
                row &= ~land.takenOut(hall, row);
            }
            together += land.minutesOf(row);
        }
        return together;
    }

    private void fillRows() {
        for (int hall = 0; hall < MAX_HALLS; hall++) {
            rows[hall] = now.print & ~land.takenOut(hall, now.print);
        }
    }

    private int seenBy(int hallSet) {
        int seen = 0;
        for (int hall = 0; hall < land.hallCount; hall++) {
            if (((hallSet >> hall) & 1) == 1) {
                seen |= rows[hall] | now.drawers[hall];
            }
        }
        return seen;
    }

    private int greaterPart(int hallSet, int shot) {
        int shows = 0;
        for (int hall = 0; hall < land.hallCount; hall++) {
            if (((hallSet >> hall) & 1) == 1) {
                shows += (rows[hall] >> shot) & 1;
            }
        }
        return Math.max(shows, Integer.bitCount(hallSet) - shows);
    }

    private void giveBackByDraw() {
        int drawn = trial.drawn();
        if (drawn == 0 || draws.below(4) != 0) {
            return;
        }
        int shot = land.shotAt(drawn, draws.below(Integer.bitCount(drawn)));
        if (shot != NONE) {
            trial.giveBack(trial.holderOf(shot), shot);
        }
    }

    private static boolean isBid(int minutes) {
        return minutes >= 0 && minutes <= MAX_BID;
    }

    private static boolean isAtRest(int high, int low, int alone, int choices) {
        int first = choices >> 1;
        int second = choices & 1;
        return gain(high, low, alone, first, second) >= gain(high, low, alone, 1 - first, second)
            && gain(high, low, alone, second, first) >= gain(high, low, alone, 1 - second, first);
    }

    /** What a widow gets by her own choice (1 high) and the other one's. */
    private static int gain(int high, int low, int alone, int own, int others) {
        if (own == others) {
            return own == 1 ? high : low;
        }
        return own == 1 ? alone : 0;
    }

    /** The signs that were fed, and the token of them that is looked at. */
    private static final class Tape {
        static final int END = 0;
        static final int WORD = 1;
        static final int NUMBER = 2;
        static final int SIGN = 3;
        static final int NO_TOKEN = 4;
        static final int LONGEST_WORD = 8;
        static final int LONGEST_NUMBER = 4;
        /** The language's words; a blank ends each, and its place among them is its number. */
        static final String WORDS = "shot sort long needs hall hates show give trade turn plain keen chapel miner not and or kind minutes place ahead ";
        static final int WORD_COUNT = 21;

        final long[] words = new long[WORD_COUNT];
        final char[] signs = new char[MAX_SIGNS];
        int size;
        int at;
        int end;
        int type;
        /** The letters, five bits each: two words are alike if these numbers are. */
        long word;
        /** The number of the word in the language, NONE if it is no word of it. */
        int keyword;
        int number;
        char sign;

        Tape() {
            int count = 0;
            for (int i = 0; i < WORDS.length() && count < WORD_COUNT; i++) {
                char letter = WORDS.charAt(i);
                if (letter == ' ') {
                    count++;
                } else {
                    words[count] = words[count] * 32 + (letter - 'a' + 1);
                }
            }
        }

        void addBytes(long bytes) {
            for (int shift = 56; shift >= 0; shift -= 8) {
                int sign = (int) (bytes >>> shift) & 255;
                boolean isSign = sign == 10 || sign >= 32 && sign <= 126;
                if (isSign && size < MAX_SIGNS) {
                    signs[size] = (char) sign;
                    size++;
                }
            }
        }

        void start() {
            end = 0;
            advance();
        }

        void advance() {
            at = end;
            while (at < size && (signs[at] == 10 || signs[at] == ' ')) {
                at++;
            }
            end = at;
            sign = 0;
            keyword = NONE;
            if (at >= size) {
                type = END;
            } else if (isLetter(signs[at])) {
                takeWord();
            } else if (isDigit(signs[at])) {
                takeNumber();
            } else {
                takeSign();
            }
        }

        private void takeWord() {
            word = 0;
            while (end < size && isLetter(signs[end])) {
                word = word * 32 + (signs[end] - 'a' + 1);
                end++;
            }
            type = end - at > LONGEST_WORD ? NO_TOKEN : WORD;
            for (int i = 0; i < WORD_COUNT && type == WORD && keyword == NONE; i++) {
                if (words[i] == word) {
                    keyword = i;
                }
            }
        }

        private void takeNumber() {
            number = 0;
            while (end < size && isDigit(signs[end])) {
                number = number * 10 + (signs[end] - '0');
                end++;
            }
            type = end - at > LONGEST_NUMBER ? NO_TOKEN : NUMBER;
        }

        private void takeSign() {
            if (end < size) {
                sign = signs[end];
                end++;
            }
            switch (sign) {
                case '(':
                case ')':
                case '<':
                case '=':
                case '+':
                case '-':
                case '*':
                case ';':
                    type = SIGN;
                    break;
                default:
                    type = NO_TOKEN;
                    break;
            }
        }

        boolean isSign(char wanted) {
            return type == SIGN && sign == wanted;
        }

        private static boolean isLetter(char sign) {
            return sign >= 'a' && sign <= 'z';
        }

        private static boolean isDigit(char sign) {
            return sign >= '0' && sign <= '9';
        }
    }

    /** Reads the tape as a county or as a round; each step answers false at a fault. */
    private static final class Reader {
        // The numbers of the words on the tape.
        static final int W_SHOT = 0;
        static final int W_SORT = 1;
        static final int W_LONG = 2;
        static final int W_NEEDS = 3;
        static final int W_HALL = 4;
        static final int W_HATES = 5;
        static final int W_SHOW = 6;
        static final int W_TURN = 9;
        static final int W_PLAIN = 10;
        static final int W_MINER = 13;
        static final int W_NOT = 14;
        static final int W_AND = 15;
        static final int W_OR = 16;
        static final int W_KIND = 17;
        static final int W_AHEAD = 20;
        // The kinds of faults.
        static final int CANNOT_STAND = 1;
        static final int NOT_TOLD = 2;
        static final int TOLD_ALREADY = 3;
        static final int WRONG_NUMBER = 4;
        static final int TOO_MANY = 5;
        static final int MAX_DEPTH = 5;

        final Tape tape;
        County land;
        int fault;

        Reader(Tape tape, County land) {
            this.tape = tape;
            this.land = land;
        }

        int readCounty(County into) {
            begin(into);
            into.clear();
            boolean isRight = true;
            for (int i = 0; i < MAX_SIGNS && isRight && tape.type != Tape.END; i++) {
                switch (tape.keyword) {
                    case W_SHOT:
                        isRight = readShot();
                        break;
                    case W_NEEDS:
                        isRight = readNeeds();
                        break;
                    case W_HALL:
                        isRight = readHall();
                        break;
                    default:
                        isRight = fail(CANNOT_STAND);
                        break;
                }
            }
            tape.size = 0;
            return fault;
        }

        int readPlan(County told, Plan into) {
            begin(told);
            into.clear();
            boolean isRight = true;
            for (int i = 0; i < MAX_SIGNS && isRight && tape.type != Tape.END; i++) {
                isRight = readPlanLine(into);
            }
            tape.size = 0;
            return fault;
        }

        private void begin(County county) {
            land = county;
            fault = 0;
            tape.start();
        }

        private boolean fail(int kind) {
            fault = kind + 16 * tape.at;
            return false;
        }

        private boolean readShot() {
            if (land.shotCount >= MAX_SHOTS) {
                return fail(TOO_MANY);
            }
            tape.advance();
            long name = tape.word;
            if (!takeNewName() || !takeKeyword(W_SORT)) {
                return false;
            }
            int sort = tape.number;
            if (!takeNumber(0, 9) || !takeKeyword(W_LONG)) {
                return false;
            }
            int length = tape.number;
            if (!takeNumber(1, 60) || !takeSemicolon()) {
                return false;
            }
            land.addShot(name, sort, length);
            return true;
        }

        private boolean readNeeds() {
            tape.advance();
            int shot = land.shotNamed(tape.word);
            if (!takeTold(shot)) {
                return false;
            }
            int needed = land.shotNamed(tape.word);
            if (isName() && (needed == shot || land.isNeeded(shot, needed))) {
                return fail(TOLD_ALREADY);
            }
            if (!takeTold(needed) || !takeSemicolon()) {
                return false;
            }
            land.addNeed(shot, needed);
            return true;
        }

        private boolean readHall() {
            if (land.hallCount >= MAX_HALLS) {
                return fail(TOO_MANY);
            }
            tape.advance();
            long name = tape.word;
            if (!takeNewName()) {
                return false;
            }
            int kind = tape.keyword;
            if (kind < W_PLAIN || kind > W_MINER) {
                return fail(CANNOT_STAND);
            }
            tape.advance();
            if (!takeKeyword(W_HATES) || !readExpression(0) || !takeSemicolon()) {
                return false;
            }
            land.addHall(name, kind - W_PLAIN + PLAIN);
            return true;
        }

        private boolean readPlanLine(Plan into) {
            int keyword = tape.keyword;
            if (keyword < W_SHOW || keyword > W_TURN) {
                return fail(CANNOT_STAND);
            }
            if (into.lines >= MAX_LINES) {
                return fail(TOO_MANY);
            }
            tape.advance();
            int deed = keyword - W_SHOW + SHOW;
            return deed == GIVE || deed == TRADE ? readHandling(into, deed) : readBare(into, deed);
        }

        private boolean readBare(Plan into, int deed) {
            if (!takeSemicolon()) {
                return false;
            }
            into.add(deed, NONE, NONE, NONE);
            return true;
        }

        private boolean readHandling(Plan into, int deed) {
            int giver = land.hallNamed(tape.word);
            if (!takeTold(giver)) {
                return false;
            }
            int taker = NONE;
            if (deed == TRADE) {
                taker = land.hallNamed(tape.word);
                if (isName() && taker == giver) {
                    return fail(TOLD_ALREADY);
                }
                if (!takeTold(taker)) {
                    return false;
                }
            }
            int shot = land.shotNamed(tape.word);
            if (!takeTold(shot) || !takeSemicolon()) {
                return false;
            }
            into.add(deed, giver, taker, shot);
            return true;
        }

        private boolean isName() {
            return tape.type == Tape.WORD && (tape.keyword == NONE || tape.keyword >= W_KIND);
        }

        private boolean takeNewName() {
            if (!isName()) {
                return fail(CANNOT_STAND);
            }
            if (land.shotNamed(tape.word) != NONE || land.hallNamed(tape.word) != NONE) {
                return fail(TOLD_ALREADY);
            }
            tape.advance();
            return true;
        }

        private boolean takeTold(int number) {
            if (!isName()) {
                return fail(CANNOT_STAND);
            }
            if (number == NONE) {
                return fail(NOT_TOLD);
            }
            tape.advance();
            return true;
        }

        private boolean takeKeyword(int wanted) {
            if (tape.keyword != wanted) {
                return fail(CANNOT_STAND);
            }
            tape.advance();
            return true;
        }

        private boolean takeNumber(int least, int most) {
            if (tape.type != Tape.NUMBER) {
                return fail(CANNOT_STAND);
            }
            if (tape.number < least || tape.number > most) {
                return fail(WRONG_NUMBER);
            }
            tape.advance();
            return true;
        }

        private boolean takeSemicolon() {
            if (!tape.isSign(';')) {
                return fail(CANNOT_STAND);
            }
            tape.advance();
            return true;
        }

        private boolean readExpression(int depth) {
            if (!readTest(depth)) {
                return false;
            }
            for (int i = 0; i < MAX_SIGNS; i++) {
                int keyword = tape.keyword;
                if (keyword != W_AND && keyword != W_OR) {
                    return true;
                }
                tape.advance();
                if (!readTest(depth)) {
                    return false;
                }
                land.laws.add(keyword == W_AND ? Laws.AND : Laws.OR);
            }
            return true;
        }

        private boolean readTest(int depth) {
            if (!readSum(depth)) {
                return false;
            }
            boolean isLess = tape.isSign('<');
            if (!isLess && !tape.isSign('=')) {
                return true;
            }
            tape.advance();
            if (!readSum(depth)) {
                return false;
            }
            land.laws.add(isLess ? Laws.LESS : Laws.SAME);
            return true;
        }

        private boolean readSum(int depth) {
            if (!readProduct(depth)) {
                return false;
            }
            for (int i = 0; i < MAX_SIGNS; i++) {
                boolean isPlus = tape.isSign('+');
                if (!isPlus && !tape.isSign('-')) {
                    return true;
                }
                tape.advance();
                if (!readProduct(depth)) {
                    return false;
                }
                land.laws.add(isPlus ? Laws.PLUS : Laws.MINUS);
            }
            return true;
        }

        private boolean readProduct(int depth) {
            if (!readPart(depth)) {
                return false;
            }
            for (int i = 0; i < MAX_SIGNS; i++) {
                if (!tape.isSign('*')) {
                    return true;
                }
                tape.advance();
                if (!readPart(depth)) {
                    return false;
                }
                land.laws.add(Laws.TIMES);
            }
            return true;
        }

        private boolean readPart(int depth) {
            int keyword = tape.keyword;
            boolean isNumber = tape.type == Tape.NUMBER;
            boolean isFact = keyword >= W_KIND && keyword <= W_AHEAD;
            boolean isOpen = tape.isSign('(');
            if (!isNumber && !isFact && !isOpen && keyword != W_NOT) {
                return fail(CANNOT_STAND);
            }
            if (depth >= MAX_DEPTH) {
                return fail(TOO_MANY);
            }
            if (isNumber || isFact) {
                land.laws.add(isNumber ? tape.number : Laws.KIND - (keyword - W_KIND));
                tape.advance();
                return true;
            }
            tape.advance();
            return isOpen ? readBracketed(depth + 1) : readNegated(depth + 1);
        }

        private boolean readBracketed(int depth) {
            if (!readExpression(depth)) {
                return false;
            }
            if (!tape.isSign(')')) {
                return fail(CANNOT_STAND);
            }
            tape.advance();
            return true;
        }

        private boolean readNegated(int depth) {
            if (!readPart(depth)) {
                return false;
            }
            land.laws.add(Laws.NOT);
            return true;
        }
    }

    /** The laws of all halls one behind another, each with its operators behind what they join. */
    private static final class Laws {
        static final int KIND = -1;
        static final int MINUTES = -2;
        static final int PLACE = -3;
        static final int AHEAD = -4;
        static final int NOT = -5;
        static final int AND = -6;
        static final int OR = -7;
        static final int LESS = -8;
        static final int SAME = -9;
        static final int PLUS = -10;
        static final int MINUS = -11;
        static final int TIMES = -12;
        /** Five depths with at most four operands that wait at each, and one more. */
        static final int STACK = 24;

        final int[] code = new int[MAX_SIGNS];
        int size;
        /** Behind the last step of each hall's law. */
        final int[] ends = new int[MAX_HALLS];
        final int[] stack = new int[STACK];

        void add(int step) {
            if (size < MAX_SIGNS) {
                code[size] = step;
                size++;
            }
        }

        int valueFor(int hall, int kind, int minutes, int place, int ahead) {
            if (hall < 0 || hall >= MAX_HALLS) {
                return 0;
            }
            int top = 0;
            for (int i = hall == 0 ? 0 : ends[hall - 1]; i < ends[hall] && i < MAX_SIGNS; i++) {
                int step = code[i];
                if (step > NOT) {
                    if (top >= STACK) {
                        return 0;
                    }
                    stack[top] = step;
                    switch (step) {
                        case KIND:
                            stack[top] = kind;
                            break;
                        case MINUTES:
                            stack[top] = minutes;
                            break;
                        case PLACE:
                            stack[top] = place;
                            break;
                        case AHEAD:
                            stack[top] = ahead;
                            break;
                        default:
                            break;
                    }
                    top++;
                } else if (step == NOT) {
                    if (top < 1) {
                        return 0;
                    }
                    stack[top - 1] = stack[top - 1] == 0 ? 1 : 0;
                } else {
                    if (top < 2) {
                        return 0;
                    }
                    top--;
                    stack[top - 1] = join(step, stack[top - 1], stack[top]);
                }
            }
            return stack[0];
        }

        private static int join(int step, int left, int right) {
            switch (step) {
                case AND:
                    return left != 0 && right != 0 ? 1 : 0;
                case OR:
                    return left != 0 || right != 0 ? 1 : 0;
                case LESS:
                    return left < right ? 1 : 0;
                case SAME:
                    return left == right ? 1 : 0;
                case PLUS:
                    return left + right;
                case MINUS:
                    return left - right;
                default:
                    return left * right;
            }
        }
    }

    /** The shots and halls as they were told, and what follows from these alone. */
    private static final class County {
        /** What stands for the sort of the shot ahead of the first one. */
        static final int FIRST = 10;

        int shotCount;
        final long[] shotNames = new long[MAX_SHOTS];
        final int[] sorts = new int[MAX_SHOTS];
        final int[] lengths = new int[MAX_SHOTS];
        final int[] needs = new int[MAX_SHOTS];
        int hallCount;
        final long[] hallNames = new long[MAX_HALLS];
        final int[] kinds = new int[MAX_HALLS];
        final Laws laws = new Laws();
        /**
         * By hall, shot and place, bit n: it is hated with sort n ahead. A law asks for nothing
         * else, so that each is judged but once.
         */
        final int[] verdicts = new int[MAX_HALLS * MAX_SHOTS * MAX_SHOTS];

        void clear() {
            shotCount = 0;
            hallCount = 0;
            laws.size = 0;
        }

        void addShot(long name, int sort, int length) {
            if (shotCount < MAX_SHOTS) {
                shotNames[shotCount] = name;
                sorts[shotCount] = sort;
                lengths[shotCount] = length;
                needs[shotCount] = 0;
                shotCount++;
            }
        }

        void addNeed(int shot, int needed) {
            if (isShot(shot)) {
                needs[shot] |= 1 << needed;
            }
        }

        /** The law of this hall is what was added to the laws since the hall told before it. */
        void addHall(long name, int kind) {
            if (hallCount < MAX_HALLS) {
                hallNames[hallCount] = name;
                kinds[hallCount] = kind;
                laws.ends[hallCount] = laws.size;
                hallCount++;
            }
        }

        boolean isShot(int shot) {
            return shot >= 0 && shot < shotCount;
        }

        boolean isHall(int hall) {
            return hall >= 0 && hall < hallCount;
        }

        boolean isNeeded(int shot, int needed) {
            return isShot(shot) && isShot(needed) && ((needs[shot] >> needed) & 1) == 1;
        }

        int shotNamed(long name) {
            for (int shot = 0; shot < shotCount; shot++) {
                if (shotNames[shot] == name) {
                    return shot;
                }
            }
            return NONE;
        }

        int hallNamed(long name) {
            for (int hall = 0; hall < hallCount; hall++) {
                if (hallNames[hall] == name) {
                    return hall;
                }
            }
            return NONE;
        }

        int film() {
            return (1 << shotCount) - 1;
        }

        int minutesOf(int row) {
            int sum = 0;
            for (int shot = 0; shot < shotCount; shot++) {
                if (((row >> shot) & 1) == 1) {
                    sum += lengths[shot];
                }
            }
            return sum;
        }

        boolean isLonger(int row, int other) {
            int more = minutesOf(row) - minutesOf(other);
            return more > 0 || more == 0 && Integer.bitCount(row) < Integer.bitCount(other);
        }

        int shotAt(int row, int i) {
            int place = 0;
            for (int shot = 0; shot < shotCount; shot++) {
                if (((row >> shot) & 1) == 1) {
                    if (place == i) {
                        return shot;
                    }
                    place++;
                }
            }
            return NONE;
        }

        boolean makesSense(int row) {
            for (int shot = 0; shot < shotCount; shot++) {
                int ahead = row & ((1 << shot) - 1);
                if (((row >> shot) & 1) == 1 && (needs[shot] & ~ahead) != 0) {
                    return false;
                }
            }
            return true;
        }

        int allNeeds(int shot) {
            int all = isShot(shot) ? needs[shot] : 0;
            // Each pass goes at least one need further, and no chain is longer than all shots.
            for (int pass = 0; pass < shotCount; pass++) {
                for (int each = 0; each < shotCount; each++) {
                    if (((all >> each) & 1) == 1) {
                        all |= needs[each];
                    }
                }
            }
            return all;
        }

        int shotsOfSort(int sort) {
            int set = 0;
            for (int shot = 0; shot < shotCount; shot++) {
                if (sorts[shot] == sort) {
                    set |= 1 << shot;
                }
            }
            return set;
        }

        /** How many shots of the row, from the first that is not ahead of this one, differ in sort. */
        int unlikeFrom(int row, int first) {
            int met = 0;
            for (int shot = Math.max(first, 0); shot < shotCount; shot++) {
                if (((row >> shot) & 1) == 1) {
                    int sort = 1 << sorts[shot];
                    if ((met & sort) != 0) {
                        break;
                    }
                    met |= sort;
                }
            }
            return Integer.bitCount(met);
        }

        int takenOut(int hall, int row) {
            if (!isHall(hall)) {
                return 0;
            }
            int hated = hatedIn(hall, row);
            switch (kinds[hall]) {
                case KEEN:
                    return hated & -hated;
                case CHAPEL:
                    return hated | behind(hated, row);
                case MINER:
                    return hated & ~lastOf(row);
                default:
                    return hated;
            }
        }

        int hatedIn(int hall, int row) {
            int hated = 0;
            int place = 0;
            int ahead = FIRST;
            for (int shot = 0; shot < shotCount; shot++) {
                if (((row >> shot) & 1) == 1) {
                    int key = keyOf(hall, shot, place);
                    if (key != NONE && ((verdicts[key] >> ahead) & 1) == 1) {
                        hated |= 1 << shot;
                    }
                    place++;
                    ahead = sorts[shot];
                }
            }
            return hated;
        }

        void judgeAll() {
            for (int hall = 0; hall < hallCount; hall++) {
                int sortsAhead = 0;
                for (int shot = 0; shot < shotCount; shot++) {
                    judge(hall, shot, 0, 1 << FIRST);
                    for (int place = 1; place <= shot; place++) {
                        judge(hall, shot, place, sortsAhead);
                    }
                    sortsAhead |= 1 << sorts[shot];
                }
            }
        }

        private void judge(int hall, int shot, int place, int sortsAhead) {
            int key = keyOf(hall, shot, place);
            if (key == NONE) {
                return;
            }
            verdicts[key] = 0;
            for (int ahead = 0; ahead <= FIRST; ahead++) {
                if (((sortsAhead >> ahead) & 1) == 1
                    && laws.valueFor(hall, sorts[shot], lengths[shot], place, ahead) != 0) {
                    verdicts[key] |= 1 << ahead;
                }
            }
        }

        private int keyOf(int hall, int shot, int place) {
            boolean isKey = isHall(hall) && isShot(shot) && place >= 0 && place < MAX_SHOTS;
            return isKey ? (hall * MAX_SHOTS + shot) * MAX_SHOTS + place : NONE;
        }

        private int lastOf(int row) {
            int last = 0;
            for (int shot = 0; shot < shotCount; shot++) {
                if (((row >> shot) & 1) == 1) {
                    last = 1 << shot;
                }
            }
            return last;
        }

        private int behind(int set, int row) {
            int found = 0;
            boolean isBehind = false;
            for (int shot = 0; shot < shotCount; shot++) {
                if (((row >> shot) & 1) == 1) {
                    if (isBehind) {
                        found |= 1 << shot;
                    }
                    isBehind = ((set >> shot) & 1) == 1;
                }
            }
            return found;
        }
    }

    /** The lines of a round. */
    private static final class Plan {
        int lines;
        final int[] deeds = new int[MAX_LINES];
        final int[] givers = new int[MAX_LINES];
        final int[] takers = new int[MAX_LINES];
        final int[] shots = new int[MAX_LINES];

        void clear() {
            lines = 0;
        }

        void add(int deed, int giver, int taker, int shot) {
            if (lines < MAX_LINES) {
                deeds[lines] = deed;
                givers[lines] = giver;
                takers[lines] = taker;
                shots[lines] = shot;
                lines++;
            }
        }

        void copy(Plan from) {
            lines = from.lines;
            for (int i = 0; i < lines && i < MAX_LINES; i++) {
                deeds[i] = from.deeds[i];
                givers[i] = from.givers[i];
                takers[i] = from.takers[i];
                shots[i] = from.shots[i];
            }
        }

        boolean isPossible(int line, County land, Travel travel) {
            if (line < 0 || line >= lines) {
                return false;
            }
            switch (deeds[line]) {
                case SHOW:
                    return land.hallCount > 0;
                case TURN:
                    return true;
                default:
                    return travel.holds(givers[line], shots[line]);
            }
        }

        void follow(int line, County land, Travel travel) {
            if (line < 0 || line >= lines) {
                return;
            }
            switch (deeds[line]) {
                case SHOW:
                    travel.showNext(land);
                    break;
                case GIVE:
                    travel.giveBack(givers[line], shots[line]);
                    break;
                case TRADE:
                    travel.handOver(givers[line], takers[line], shots[line]);
                    break;
                default:
                    travel.turnRound();
                    break;
            }
        }
    }

    /** Where the shots are, and how far the print has come. */
    private static final class Travel {
        int print;
        final int[] drawers = new int[MAX_HALLS];
        /** The order is only ever that of the numbers, or the other way round. */
        boolean isTurned;
        int next;
        int toursOver;

        void begin(int film) {
            print = film;
            for (int hall = 0; hall < MAX_HALLS; hall++) {
                drawers[hall] = 0;
            }
            isTurned = false;
            next = 0;
            toursOver = 0;
        }

        void copy(Travel from) {
            print = from.print;
            for (int hall = 0; hall < MAX_HALLS; hall++) {
                drawers[hall] = from.drawers[hall];
            }
            isTurned = from.isTurned;
            next = from.next;
            toursOver = from.toursOver;
        }

        /** The place of a hall in the order; as well, the hall at a place. */
        int swapPlace(County land, int hallOrPlace) {
            return isTurned ? land.hallCount - 1 - hallOrPlace : hallOrPlace;
        }

        int drawn() {
            int set = 0;
            for (int hall = 0; hall < MAX_HALLS; hall++) {
                set |= drawers[hall];
            }
            return set;
        }

        boolean holds(int hall, int shot) {
            return hall >= 0 && hall < MAX_HALLS && ((drawers[hall] >> shot) & 1) == 1;
        }

        int holderOf(int shot) {
            for (int hall = 0; hall < MAX_HALLS; hall++) {
                if (holds(hall, shot)) {
                    return hall;
                }
            }
            return NONE;
        }

        void showAt(County land, int hall) {
            if (hall >= 0 && hall < MAX_HALLS) {
                int taken = land.takenOut(hall, print);
                drawers[hall] |= taken;
                print &= ~taken;
            }
        }

        /** Answers the row that was shown: it is the print from then on. */
        int showNext(County land) {
            showAt(land, next);
            int place = swapPlace(land, next) + 1;
            if (place >= land.hallCount) {
                place = 0;
                toursOver++;
            }
            next = swapPlace(land, place);
            return print;
        }

        void giveBack(int hall, int shot) {
            if (holds(hall, shot)) {
                drawers[hall] &= ~(1 << shot);
                print |= 1 << shot;
            }
        }

        void handOver(int hall, int other, int shot) {
            if (holds(hall, shot) && other >= 0 && other < MAX_HALLS) {
                drawers[hall] &= ~(1 << shot);
                drawers[other] |= 1 << shot;
            }
        }

        void turnRound() {
            isTurned = !isTurned;
        }
    }

    /** What was ahead of each of the last deeds; the newest one pushes out the oldest one. */
    private static final class Past {
        final Travel[] kept = new Travel[MAX_UNDO];
        int top;
        int size;

        Past() {
            for (int i = 0; i < MAX_UNDO; i++) {
                kept[i] = new Travel();
            }
        }

        void keep(Travel travel) {
            if (top >= 0 && top < MAX_UNDO) {
                kept[top].copy(travel);
                top = (top + 1) % MAX_UNDO;
                size = Math.min(size + 1, MAX_UNDO);
            }
        }

        boolean takeBack(Travel travel) {
            int last = (top + MAX_UNDO - 1) % MAX_UNDO;
            if (size == 0 || last < 0) {
                return false;
            }
            travel.copy(kept[last]);
            top = last;
            size--;
            return true;
        }

        void forget() {
            size = 0;
        }
    }

    /** What was seen in the unknown hall. */
    private static final class Sightings {
        final int[] shots = new int[MAX_SEEN];
        final boolean[] isShown = new boolean[MAX_SEEN];
        int size;

        boolean add(int shot, boolean wasShown) {
            if (size >= MAX_SEEN) {
                return false;
            }
            shots[size] = shot;
            isShown[size] = wasShown;
            size++;
            return true;
        }

        void copy(Sightings from) {
            size = from.size;
            for (int i = 0; i < size && i < MAX_SEEN; i++) {
                shots[i] = from.shots[i];
                isShown[i] = from.isShown[i];
            }
        }

        boolean fit(int row) {
            for (int i = 0; i < size && i < MAX_SEEN; i++) {
                if (((row >> shots[i]) & 1) == 1 != isShown[i]) {
                    return false;
                }
            }
            return true;
        }
    }

    /** What can be gone back to. */
    private static final class Mark {
        boolean isLaid;
        final Travel travel = new Travel();
        final Plan plan = new Plan();
        final Sightings sightings = new Sightings();

        void lay(Travel nowTravel, Plan nowPlan, Sightings nowSightings) {
            travel.copy(nowTravel);
            plan.copy(nowPlan);
            sightings.copy(nowSightings);
            isLaid = true;
        }

        void goBack(Travel nowTravel, Plan nowPlan, Sightings nowSightings) {
            nowTravel.copy(travel);
            nowPlan.copy(plan);
            nowSightings.copy(sightings);
        }
    }

    /** The search for the order of some halls by which most minutes are shown. */
    private static final class Ranking {
        final int[] path = new int[MAX_HALLS];
        final int[] best = new int[MAX_HALLS];
        int most;

        void find(County land, int hallSet, int print) {
            most = NONE;
            search(land, 0, hallSet, print, 0);
        }

        private void search(County land, int depth, int left, int print, int together) {
            if (left == 0 || depth >= MAX_HALLS) {
                if (together > most) {
                    most = together;
                    keepPath();
                }
                return;
            }
            // No hall that is left can show more than what comes; rows come in their order, so
            // one that is only as good as an earlier one is not wanted.
            if (together + Integer.bitCount(left) * land.minutesOf(print) <= most) {
                return;
            }
            for (int hall = 0; hall < land.hallCount; hall++) {
                if (((left >> hall) & 1) == 1) {
                    int row = print & ~land.takenOut(hall, print);
                    path[depth] = hall;
                    search(land, depth + 1, left & ~(1 << hall), row, together + land.minutesOf(row));
                }
            }
        }

        private void keepPath() {
            for (int i = 0; i < MAX_HALLS; i++) {
                best[i] = path[i];
            }
        }
    }

    /** Numbers drawn one behind another from a seed. */
    private static final class Draws {
        long state;

        void begin(int seed) {
            state = seed;
        }

        int below(int bound) {
            state = (state * 1103515245L + 12345L) % 2147483648L;
            return bound < 1 ? 0 : (int) (state / 65536L % bound);
        }
    }
}
