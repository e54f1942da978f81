import java.util.Random;

/** Long runs of drawn calls, each answer compared with that of the slow model. */
public final class ModelTest {
    private static final String[] KINDS = {"plain", "keen", "chapel", "miner"};
    private static final String[] FACTS = {"kind", "minutes", "place", "ahead"};
    private static final String[] NAMES = {"a", "b", "c", "d", "e", "f", "g", "h", "i", "j", "kind", "place"};
    private static final String[] HALLS = {"ha", "hb", "hc", "hd", "he", "ahead"};
    private static final String SIGNS = "()<=+-*;  \n;abkz019A!";
    private static final String[] SCRAPS = {"shot ", "sort ", "long ", "needs ", "hall ", "hates ", "show;", "give ",
        "trade ", "turn;", "plain ", "not ", "and ", "or ", "(", ")", "12345", "abcdefghi", "61", "10", "0", "a ", "ha "};

    private final Random random;
    private final CountyPrint x = new CountyPrint();
    private final Model model = new Model();
    private String run = "";

    private ModelTest(long seed) {
        random = new Random(seed);
    }

    public static void main(String[] args) {
        for (int seed = 1; seed <= 300; seed++) {
            new ModelTest(seed).run();
        }
        Due.end();
    }

    private int below(int n) {
        return random.nextInt(n);
    }

    private String one(String[] of) {
        return of[below(of.length)];
    }

    private String part(int depth) {
        boolean isDeep = depth >= 4 && below(60) != 0;
        switch (below(isDeep ? 3 : 6)) {
            case 0:
                return "" + below(below(3) == 0 ? 9999 : 12);
            case 1:
            case 2:
                return one(FACTS);
            case 3:
                return "not " + part(depth + 1);
            case 4:
                return "(" + expression(depth + 1) + ")";
            default:
                return one(FACTS);
        }
    }

    private String product(int depth) {
        return below(4) == 0 ? part(depth) + "*" + part(depth) : part(depth);
    }

    private String sum(int depth) {
        return below(3) == 0 ? product(depth) + (below(2) == 0 ? "+" : "-") + product(depth) : product(depth);
    }

    private String test(int depth) {
        return below(2) == 0 ? sum(depth) + (below(2) == 0 ? "<" : " = ") + sum(depth) : sum(depth);
    }

    private String expression(int depth) {
        if (depth == 0 && below(2) == 0) {
            return one(FACTS) + (below(2) == 0 ? "<" : "=") + below(8);
        }
        StringBuilder text = new StringBuilder(test(depth));
        for (int i = below(3); i > 0; i--) {
            text.append(below(2) == 0 ? " and " : " or ").append(test(depth));
        }
        return text.toString();
    }

    private String county() {
        int shots = below(20) == 0 ? 11 : 2 + below(9) - below(3);
        int halls = below(20) == 0 ? 7 : 1 + below(6) - (below(8) == 0 ? 1 : 0);
        StringBuilder text = new StringBuilder();
        for (int i = 0; i < shots; i++) {
            text.append("shot ").append(NAMES[i]).append(" sort ").append(below(6)).append(" long ")
                .append(1 + below(below(3) == 0 ? 60 : 5)).append(below(8) == 0 ? "\n;" : ";");
        }
        for (int i = below(1 + shots); i > 0; i--) {
            int a = below(shots);
            int b = below(6) == 0 ? below(shots) : below(a + 1);
            boolean isNew = text.indexOf("needs " + NAMES[a] + " " + NAMES[b]) < 0;
            if (a != b && isNew || below(100) == 0) {
                text.append("needs ").append(NAMES[a]).append(' ').append(NAMES[b]).append(';');
            }
        }
        for (int i = 0; i < halls; i++) {
            text.append("hall ").append(HALLS[i % 6]).append(' ').append(one(KINDS)).append(" hates ")
                .append(expression(0)).append(';');
        }
        return text.toString();
    }

    private String round() {
        StringBuilder text = new StringBuilder();
        for (int i = below(14) == 0 ? 42 : below(20); i > 0; i--) {
            switch (below(5)) {
                case 0:
                case 1:
                    text.append("show;");
                    break;
                case 2:
                    text.append("give ").append(hallName()).append(' ').append(shotName()).append(';');
                    break;
                case 3:
                    text.append(trade());
                    break;
                default:
                    text.append("turn;");
                    break;
            }
        }
        return text.toString();
    }

    private String trade() {
        String from = hallName();
        String to = hallName();
        return from.equals(to) && below(20) != 0 ? "show;" : "trade " + from + " " + to + " " + shotName() + ";";
    }

    private String hallName() {
        int n = model.hallList.size();
        return HALLS[n == 0 || below(100) == 0 ? below(6) : below(n)];
    }

    private String shotName() {
        int n = model.shots.size();
        return NAMES[n == 0 || below(100) == 0 ? below(10) : below(n)];
    }

    private String spoilt(String text) {
        StringBuilder s = new StringBuilder(text);
        for (int i = below(3); i > 0; i--) {
            int at = below(s.length() + 1);
            switch (below(3)) {
                case 0:
                    s.insert(at, SIGNS.charAt(below(SIGNS.length())));
                    break;
                case 1:
                    s.delete(at, Math.min(s.length(), at + 1 + below(4)));
                    break;
                default:
                    s.insert(at, one(SCRAPS));
                    break;
            }
        }
        return s.toString();
    }

    private void tell(String text) {
        for (int from = 0; from < text.length(); from += 24) {
            long[] parts = new long[3];
            for (int i = 0; i < 24; i++) {
                char sign = from + i < text.length() ? text.charAt(from + i) : (char) (below(32) == 0 ? 200 : 0);
                parts[i / 8] = parts[i / 8] << 8 | sign & 255;
            }
            due("feed", x.feed(parts[0], parts[1], parts[2]), model.feed(parts[0], parts[1], parts[2]));
        }
    }

    private void due(String call, long got, long want) {
        Due.due(run + " " + call, got, want);
    }

    private void due(String call, boolean got, boolean want) {
        Due.due(run + " " + call, got, want);
    }

    private void readCounty(String text) {
        run = text;
        tell(text);
        due("county()", x.county(), model.county());
    }

    private void readRound(String text) {
        tell(text);
        due("round() of " + text, x.round(), model.round());
    }

    private void run() {
        // Where the objects are used for more than 512 calls nothing is promised; that they agree
        // nonetheless costs nothing here.
        readCounty(county());
        for (int i = 0; i < 12; i++) {
            if (below(4) == 0) {
                readCounty(below(2) == 0 ? spoilt(county()) : county());
            }
            if (below(2) == 0) {
                readRound(below(3) == 0 ? spoilt(round()) : round());
            }
            for (int k = below(6); k > 0; k--) {
                deed();
            }
            questions();
        }
    }

    private int hall() {
        return below(8) - 1;
    }

    private int shot() {
        return below(12) - 1;
    }

    private int drawnShot() {
        int set = model.count(6);
        return set == 0 || below(6) == 0 ? shot() : Model.ofBits(set).get(below(Integer.bitCount(set)));
    }

    private void deed() {
        int s = drawnShot();
        int h = below(5) == 0 ? hall() : model.where(s);
        int o = hall();
        switch (below(10)) {
            case 0:
            case 1:
            case 2:
                due("show()", x.show(), model.show());
                break;
            case 3:
            case 4:
                due("give(" + h + ", " + s + ")", x.give(h, s), model.give(h, s));
                break;
            case 5:
            case 6:
                due("trade(" + h + ", " + o + ", " + s + ")", x.trade(h, o, s), model.trade(h, o, s));
                break;
            case 7:
                due("turn()", x.turn(), model.turn());
                break;
            case 8:
                due("undo()", x.undo(), model.undo());
                break;
            default:
                moreDeeds();
                break;
        }
    }

    private void moreDeeds() {
        int m = below(6) - 1;
        boolean b = below(2) == 0;
        int s = shot();
        if (below(2) == 0) {
            due("mark(" + m + ", " + b + ")", x.mark(m, b), model.mark(m, b));
        } else {
            due("see(" + s + ", " + b + ")", x.see(s, b), model.see(s, b));
        }
    }

    private void questions() {
        for (int what = -2; what <= 12; what++) {
            due("count(" + what + ")", x.count(what), model.count(what));
        }
        for (int what = -1; what <= 3; what++) {
            due("judged(" + what + ")", x.judged(what), model.judged(what));
            due("other(" + what + ")", x.other(what), model.other(what));
        }
        for (int what : new int[] {-2, -1, below(6), below(3), 6}) {
            due("order(" + what + ")", x.order(what), model.order(what));
        }
        due("silly()", x.silly(), model.silly());
        due("lasts()", x.lasts(), model.lasts());
        due("sense()", x.sense(), model.sense());
        due("longest()", x.longest(), model.longest());
        due("ride()", x.ride(), model.ride());
        due("mends()", x.mends(), model.mends());
        due("mild()", x.mild(), model.mild());
        due("halls()", x.halls(), model.halls());
        due("ask()", x.ask(), model.ask());
        shotQuestions();
        hallQuestions();
        int seed = below(20) == 0 ? -1 + 10001 * below(2) : below(10000);
        int shows = below(100);
        for (int what = -1; what <= 3; what++) {
            due("tours(" + seed + ", " + shows + ", " + what + ")", x.tours(seed, shows, what),
                model.tours(seed, shows, what));
        }
    }

    private void shotQuestions() {
        for (int s = -1; s <= 10; s++) {
            for (int what = -1; what <= 4; what++) {
                due("shot(" + s + ", " + what + ")", x.shot(s, what), model.shot(s, what));
            }
            due("gone(" + s + ")", x.gone(s), model.gone(s));
            due("kin(" + s + ")", x.kin(s), model.kin(s));
            due("hoard(" + s + ")", x.hoard(s), model.hoard(s));
            due("where(" + s + ")", x.where(s), model.where(s));
        }
    }

    private void hallQuestions() {
        for (int h = -1; h <= 6; h++) {
            for (int what = -1; what <= 4; what++) {
                due("hall(" + h + ", " + what + ")", x.hall(h, what), model.hall(h, what));
            }
            int i = below(12) - 1;
            due("shown(" + h + ", " + i + ")", x.shown(h, i), model.shown(h, i));
            due("minutes(" + h + ")", x.minutes(h), model.minutes(h));
            due("saves(" + h + ")", Due.saves(x, h), savesOfModel(h));
            due("share(" + h + ")", x.share(h), model.share(h));
            int o = hall();
            due("taste(" + h + ", " + o + ")", x.taste(h, o), model.taste(h, o));
        }
    }

    private int savesOfModel(int hall) {
        try {
            return model.saves(hall);
        } catch (java.util.NoSuchElementException e) {
            return Due.THROWS;
        }
    }
}
