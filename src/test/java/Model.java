import java.util.ArrayDeque;
import java.util.ArrayList;
import java.util.Arrays;
import java.util.Collections;
import java.util.Deque;
import java.util.HashMap;
import java.util.LinkedHashMap;
import java.util.List;
import java.util.Map;
import java.util.NoSuchElementException;
import java.util.TreeSet;

/**
 * The document once more, told in another way: rows are lists, laws are kept as tokens and worked
 * out anew each time, every best one is looked for among all. Slow, and made to be compared with.
 */
final class Model {
    static final class Fault extends RuntimeException {
        final int kind;
        final Token token;

        Fault(int kind, Token token) {
            super("fault");
            this.kind = kind;
            this.token = token;
        }
    }

    record Token(String text, int at) {
        boolean isEnd() {
            return text.isEmpty();
        }

        boolean isWord() {
            return text.matches("[a-z]{1,8}");
        }

        boolean isNumber() {
            return text.matches("[0-9]{1,4}");
        }

        boolean isName() {
            return isWord() && !RESERVED.contains(text);
        }
    }

    record Shot(String name, int sort, int minutes) {
    }

    record Hall(String name, String kind, List<Token> law) {
    }

    static final List<String> RESERVED = List.of("shot", "sort", "long", "needs", "hall", "hates", "show", "give",
        "trade", "turn", "plain", "keen", "chapel", "miner", "not", "and", "or");
    static final List<String> KINDS = List.of("plain", "keen", "chapel", "miner");
    static final List<String> FACTS = List.of("kind", "minutes", "place", "ahead");

    /** All that the deeds by hand change. */
    static final class State {
        List<Integer> print = new ArrayList<>();
        List<TreeSet<Integer>> drawers = new ArrayList<>();
        List<Integer> order = new ArrayList<>();
        int next = 0;
        int tours = 0;

        State copy() {
            State s = new State();
            s.print = new ArrayList<>(print);
            for (TreeSet<Integer> drawer : drawers) {
                s.drawers.add(new TreeSet<>(drawer));
            }
            s.order = new ArrayList<>(order);
            s.next = next;
            s.tours = tours;
            return s;
        }
    }

    record Laid(State state, List<String[]> round, List<int[]> seen) {
    }

    String tape = "";
    List<Shot> shots = new ArrayList<>();
    List<Hall> hallList = new ArrayList<>();
    Map<Integer, TreeSet<Integer>> needs = new HashMap<>();
    List<String[]> lines = new ArrayList<>();
    List<int[]> seenList = new ArrayList<>();
    State now = new State();
    Deque<State> past = new ArrayDeque<>();
    Map<Integer, Laid> laid = new HashMap<>();

    // ---- the tape and its tokens

    int feed(long a, long b, long c) {
        for (long bytes : new long[] {a, b, c}) {
            for (int i = 7; i >= 0; i--) {
                int sign = (int) (bytes >> (8 * i)) & 0xff;
                if ((sign == 10 || 32 <= sign && sign <= 126) && tape.length() < 1000) {
                    tape += (char) sign;
                }
            }
        }
        return tape.length();
    }

    static List<Token> tokens(String text) {
        List<Token> all = new ArrayList<>();
        java.util.regex.Matcher m = java.util.regex.Pattern.compile("[a-z]+|[0-9]+|[^a-z0-9 \n]").matcher(text);
        while (m.find()) {
            all.add(new Token(m.group(), m.start()));
        }
        all.add(new Token("", text.length()));
        return all;
    }

    private List<Token> left;

    private Token look() {
        return left.get(0);
    }

    private Token take() {
        return look().isEnd() ? look() : left.remove(0);
    }

    private Token take(String wanted) {
        Token t = take();
        if (!t.text.equals(wanted)) {
            throw new Fault(1, t);
        }
        return t;
    }

    private Token takeName() {
        Token t = take();
        if (!t.isName()) {
            throw new Fault(1, t);
        }
        return t;
    }

    private int takeNumber(int least, int most) {
        Token t = take();
        if (!t.isNumber()) {
            throw new Fault(1, t);
        }
        int n = Integer.parseInt(t.text);
        if (n < least || n > most) {
            throw new Fault(4, t);
        }
        return n;
    }

    static int indexOfShot(List<Shot> list, String name) {
        for (int i = 0; i < list.size(); i++) {
            if (list.get(i).name.equals(name)) {
                return i;
            }
        }
        return -1;
    }

    static int indexOfHall(List<Hall> list, String name) {
        for (int i = 0; i < list.size(); i++) {
            if (list.get(i).name.equals(name)) {
                return i;
            }
        }
        return -1;
    }

    int county() {
        List<Shot> newShots = new ArrayList<>();
        List<Hall> newHalls = new ArrayList<>();
        Map<Integer, TreeSet<Integer>> newNeeds = new HashMap<>();
        left = tokens(tape);
        tape = "";
        try {
            while (!look().isEnd()) {
                countyLine(newShots, newHalls, newNeeds);
            }
        } catch (Fault f) {
            return f.kind + 16 * f.token.at;
        }
        shots = newShots;
        hallList = newHalls;
        needs = newNeeds;
        now = beginning();
        lines = new ArrayList<>();
        seenList = new ArrayList<>();
        past.clear();
        laid.clear();
        return 0;
    }

    private void countyLine(List<Shot> s, List<Hall> h, Map<Integer, TreeSet<Integer>> n) {
        Token first = take();
        if (first.text.equals("shot")) {
            if (s.size() == 10) {
                throw new Fault(5, first);
            }
            Token name = takeName();
            if (indexOfShot(s, name.text) >= 0 || indexOfHall(h, name.text) >= 0) {
                throw new Fault(3, name);
            }
            take("sort");
            int sort = takeNumber(0, 9);
            take("long");
            int minutes = takeNumber(1, 60);
            take(";");
            s.add(new Shot(name.text, sort, minutes));
        } else if (first.text.equals("needs")) {
            Token a = takeName();
            int one = indexOfShot(s, a.text);
            if (one < 0) {
                throw new Fault(2, a);
            }
            Token b = takeName();
            int two = indexOfShot(s, b.text);
            if (two < 0) {
                throw new Fault(2, b);
            }
            if (one == two || n.getOrDefault(one, new TreeSet<>()).contains(two)) {
                throw new Fault(3, b);
            }
            take(";");
            n.computeIfAbsent(one, k -> new TreeSet<>()).add(two);
        } else if (first.text.equals("hall")) {
            if (h.size() == 6) {
                throw new Fault(5, first);
            }
            Token name = takeName();
            if (indexOfShot(s, name.text) >= 0 || indexOfHall(h, name.text) >= 0) {
                throw new Fault(3, name);
            }
            Token kind = take();
            if (!KINDS.contains(kind.text)) {
                throw new Fault(1, kind);
            }
            take("hates");
            List<Token> from = new ArrayList<>(left);
            new Law(left, 0, 0, 0, 0).value(0);
            List<Token> law = new ArrayList<>(from.subList(0, from.size() - left.size()));
            law.add(new Token("", 0));
            take(";");
            h.add(new Hall(name.text, kind.text, law));
        } else {
            throw new Fault(1, first);
        }
    }

    /** Works a law out while it reads it. */
    static final class Law {
        final List<Token> left;
        final int[] facts;

        Law(List<Token> left, int kind, int minutes, int place, int ahead) {
            this.left = left;
            this.facts = new int[] {kind, minutes, place, ahead};
        }

        private boolean next(String... wanted) {
            return Arrays.asList(wanted).contains(left.get(0).text) && !left.get(0).isEnd();
        }

        int value(int depth) {
            int v = test(depth);
            while (next("and", "or")) {
                boolean isAnd = left.remove(0).text.equals("and");
                int w = test(depth);
                boolean so = isAnd ? v != 0 && w != 0 : v != 0 || w != 0;
                v = so ? 1 : 0;
            }
            return v;
        }

        int test(int depth) {
            int v = sum(depth);
            if (next("<", "=")) {
                boolean isLess = left.remove(0).text.equals("<");
                int w = sum(depth);
                boolean so = isLess ? v < w : v == w;
                v = so ? 1 : 0;
            }
            return v;
        }

        int sum(int depth) {
            int v = product(depth);
            while (next("+", "-")) {
                int sign = left.remove(0).text.equals("+") ? 1 : -1;
                v += sign * product(depth);
            }
            return v;
        }

        int product(int depth) {
            int v = part(depth);
            while (next("*")) {
                left.remove(0);
                v *= part(depth);
            }
            return v;
        }

        int part(int depth) {
            Token t = left.get(0);
            boolean can = t.isNumber() || FACTS.contains(t.text) || next("not", "(");
            if (!can) {
                throw new Fault(1, t);
            }
            if (depth == 5) {
                throw new Fault(5, t);
            }
            left.remove(0);
            if (t.isNumber()) {
                return Integer.parseInt(t.text);
            }
            if (t.text.equals("not")) {
                return part(depth + 1) == 0 ? 1 : 0;
            }
            if (t.text.equals("(")) {
                int v = value(depth + 1);
                if (!next(")")) {
                    throw new Fault(1, left.get(0));
                }
                left.remove(0);
                return v;
            }
            return facts[FACTS.indexOf(t.text)];
        }
    }

    int round() {
        List<String[]> found = new ArrayList<>();
        left = tokens(tape);
        tape = "";
        try {
            while (!look().isEnd()) {
                roundLine(found);
            }
        } catch (Fault f) {
            return f.kind + 16 * f.token.at;
        }
        lines = found;
        return 0;
    }

    private void roundLine(List<String[]> found) {
        Token first = take();
        if (!List.of("show", "give", "trade", "turn").contains(first.text)) {
            throw new Fault(1, first);
        }
        if (found.size() == 40) {
            throw new Fault(5, first);
        }
        String giver = "";
        String taker = "";
        String shot = "";
        if (first.text.equals("give") || first.text.equals("trade")) {
            giver = toldHall();
            if (first.text.equals("trade")) {
                Token second = look();
                taker = toldHall();
                if (taker.equals(giver)) {
                    throw new Fault(3, second);
                }
            }
            Token t = takeName();
            if (indexOfShot(shots, t.text) < 0) {
                throw new Fault(2, t);
            }
            shot = t.text;
        }
        take(";");
        found.add(new String[] {first.text, giver, taker, shot});
    }

    private String toldHall() {
        Token t = takeName();
        if (indexOfHall(hallList, t.text) < 0) {
            throw new Fault(2, t);
        }
        return t.text;
    }

    // ---- rows

    State beginning() {
        State s = new State();
        for (int i = 0; i < shots.size(); i++) {
            s.print.add(i);
        }
        for (int i = 0; i < hallList.size(); i++) {
            s.order.add(i);
            s.drawers.add(new TreeSet<>());
        }
        return s;
    }

    static int bits(Iterable<Integer> numbers) {
        int set = 0;
        for (int n : numbers) {
            set |= 1 << n;
        }
        return set;
    }

    static List<Integer> ofBits(int set) {
        List<Integer> list = new ArrayList<>();
        for (int i = 0; i < 31; i++) {
            if ((set & 1 << i) != 0) {
                list.add(i);
            }
        }
        return list;
    }

    int length(Iterable<Integer> row) {
        int sum = 0;
        for (int s : row) {
            sum += shots.get(s).minutes;
        }
        return sum;
    }

    boolean isShot(int shot) {
        return shot >= 0 && shot < shots.size();
    }

    boolean isHall(int hall) {
        return hall >= 0 && hall < hallList.size();
    }

    boolean hates(int hall, List<Integer> row, int place) {
        Shot s = shots.get(row.get(place));
        int ahead = place == 0 ? 10 : shots.get(row.get(place - 1)).sort;
        return new Law(new ArrayList<>(hallList.get(hall).law), s.sort, s.minutes, place, ahead).value(0) != 0;
    }

    List<Integer> out(int hall, List<Integer> row) {
        TreeSet<Integer> places = new TreeSet<>();
        for (int place = 0; place < row.size(); place++) {
            if (hates(hall, row, place)) {
                places.add(place);
            }
        }
        String kind = hallList.get(hall).kind;
        if (kind.equals("keen") && !places.isEmpty()) {
            places = new TreeSet<>(List.of(places.first()));
        } else if (kind.equals("chapel")) {
            for (int place : new ArrayList<>(places)) {
                if (place + 1 < row.size()) {
                    places.add(place + 1);
                }
            }
        } else if (kind.equals("miner")) {
            places.remove(row.size() - 1);
        }
        List<Integer> found = new ArrayList<>();
        for (int place : places) {
            found.add(row.get(place));
        }
        return found;
    }

    List<Integer> rest(int hall, List<Integer> row) {
        List<Integer> others = new ArrayList<>(row);
        others.removeAll(out(hall, row));
        return others;
    }

    boolean sensible(List<Integer> row) {
        for (int i = 0; i < row.size(); i++) {
            if (!row.subList(0, i).containsAll(needs.getOrDefault(row.get(i), new TreeSet<>()))) {
                return false;
            }
        }
        return true;
    }

    void cut(State s, int hall) {
        s.drawers.get(hall).addAll(out(hall, s.print));
        s.print = rest(hall, s.print);
    }

    void showIn(State s) {
        cut(s, s.next);
        int place = s.order.indexOf(s.next) + 1;
        if (place == s.order.size()) {
            place = 0;
            s.tours++;
        }
        s.next = s.order.get(place);
    }

    void giveIn(State s, int hall, int shot) {
        s.drawers.get(hall).remove(shot);
        int place = 0;
        while (place < s.print.size() && s.print.get(place) < shot) {
            place++;
        }
        s.print.add(place, shot);
    }

    void tradeIn(State s, int hall, int other, int shot) {
        s.drawers.get(hall).remove(shot);
        s.drawers.get(other).add(shot);
    }

    void keep() {
        past.addLast(now.copy());
        if (past.size() > 16) {
            past.removeFirst();
        }
    }

    TreeSet<Integer> drawn(State s) {
        TreeSet<Integer> all = new TreeSet<>();
        s.drawers.forEach(all::addAll);
        return all;
    }

    List<Integer> these() {
        return hallList.isEmpty() ? List.of() : now.order.subList(now.order.indexOf(now.next), now.order.size());
    }

    /** What each of these halls shows, in the order; the spared one takes nothing out. */
    LinkedHashMap<Integer, List<Integer>> tour(List<Integer> row, List<Integer> halls, int spared) {
        LinkedHashMap<Integer, List<Integer>> all = new LinkedHashMap<>();
        for (int hall : halls) {
            row = hall == spared ? row : rest(hall, row);
            all.put(hall, row);
        }
        return all;
    }

    int together(LinkedHashMap<Integer, List<Integer>> tour) {
        return tour.values().stream().mapToInt(this::length).sum();
    }

    // ---- the face

    int shot(int shot, int what) {
        if (!isShot(shot) || what < 0 || what > 3) {
            return -2;
        }
        int[] all = {shots.get(shot).sort, shots.get(shot).minutes,
            bits(needs.getOrDefault(shot, new TreeSet<>())), now.print.contains(shot) ? 1 : 0};
        return all[what];
    }

    int hall(int hall, int what) {
        if (!isHall(hall) || what < 0 || what > 3) {
            return -1;
        }
        int[] all = {KINDS.indexOf(hallList.get(hall).kind), bits(now.drawers.get(hall)), now.order.indexOf(hall),
            bits(out(hall, now.print))};
        return all[what];
    }

    int show() {
        if (hallList.isEmpty()) {
            return -1;
        }
        keep();
        showIn(now);
        return length(now.print);
    }

    int give(int hall, int shot) {
        if (!isHall(hall) || !now.drawers.get(hall).contains(shot)) {
            return -1;
        }
        keep();
        giveIn(now, hall, shot);
        return now.print.size();
    }

    boolean trade(int hall, int other, int shot) {
        if (!isHall(hall) || !isHall(other) || hall == other || !now.drawers.get(hall).contains(shot)) {
            return false;
        }
        keep();
        tradeIn(now, hall, other, shot);
        return true;
    }

    int turn() {
        keep();
        Collections.reverse(now.order);
        return hallList.isEmpty() ? -1 : now.next;
    }

    boolean undo() {
        if (past.isEmpty()) {
            return false;
        }
        now = past.removeLast();
        return true;
    }

    int judged(int what) {
        if (what < 0 || what > 2) {
            return -2;
        }
        int[] all = {-1, -1, 0};
        State s = beginning();
        for (int i = 0; i < lines.size(); i++) {
            String[] line = lines.get(i);
            int giver = indexOfHall(hallList, line[1]);
            int taker = indexOfHall(hallList, line[2]);
            int shot = indexOfShot(shots, line[3]);
            boolean can = true;
            if (line[0].equals("show")) {
                can = !hallList.isEmpty();
                if (can) {
                    showIn(s);
                    all[2] += length(s.print);
                    all[1] = all[1] < 0 && !sensible(s.print) ? i : all[1];
                }
            } else if (line[0].equals("turn")) {
                Collections.reverse(s.order);
            } else {
                can = s.drawers.get(giver).contains(shot);
                if (can && taker < 0) {
                    giveIn(s, giver, shot);
                } else if (can) {
                    tradeIn(s, giver, taker, shot);
                }
            }
            all[0] = all[0] < 0 && !can ? i : all[0];
        }
        return all[what];
    }

    int shown(int hall, int i) {
        List<Integer> row = tour(now.print, these(), -1).get(hall);
        return row == null || i < 0 || i >= row.size() ? -1 : row.get(i);
    }

    int minutes(int hall) {
        List<Integer> row = tour(now.print, these(), -1).get(hall);
        return row == null ? -1 : length(row);
    }

    int silly() {
        for (Map.Entry<Integer, List<Integer>> e : tour(now.print, these(), -1).entrySet()) {
            if (!sensible(e.getValue())) {
                return e.getKey();
            }
        }
        return -1;
    }

    int lasts() {
        State s = now.copy();
        int shows = 0;
        while (!s.print.isEmpty()) {
            if (hallList.isEmpty() || shows == 99) {
                return -1;
            }
            showIn(s);
            shows++;
        }
        return shows;
    }

    boolean sense() {
        return sensible(now.print);
    }

    int gone(int shot) {
        if (!now.print.contains(shot)) {
            return -1;
        }
        for (Map.Entry<Integer, List<Integer>> e : tour(now.print, these(), -1).entrySet()) {
            if (!e.getValue().contains(shot)) {
                return e.getKey();
            }
        }
        return -1;
    }

    int saves(int hall) {
        if (!these().contains(hall)) {
            throw new NoSuchElementException();
        }
        return together(tour(now.print, these(), hall)) - together(tour(now.print, these(), -1));
    }

    int kin(int shot) {
        if (!isShot(shot)) {
            return -1;
        }
        TreeSet<Integer> found = new TreeSet<>();
        Deque<Integer> open = new ArrayDeque<>(List.of(shot));
        while (!open.isEmpty()) {
            for (int n : needs.getOrDefault(open.pop(), new TreeSet<>())) {
                if (found.add(n)) {
                    open.push(n);
                }
            }
        }
        return bits(found);
    }

    int hoard(int sort) {
        int best = -1;
        int most = 0;
        for (int h = 0; h < hallList.size(); h++) {
            int sum = now.drawers.get(h).stream().map(shots::get).filter(s -> s.sort == sort)
                .mapToInt(Shot::minutes).sum();
            if (sum > most) {
                best = h;
                most = sum;
            }
        }
        return best;
    }

    int longest() {
        int most = 0;
        for (int from = 0; from <= now.print.size(); from++) {
            for (int to = from; to <= now.print.size(); to++) {
                long sorts = now.print.subList(from, to).stream().map(s -> shots.get(s).sort).distinct().count();
                if (sorts == to - from) {
                    most = Math.max(most, to - from);
                }
            }
        }
        return most;
    }

    private void permute(List<Integer> done, List<Integer> open, List<List<Integer>> all) {
        if (open.isEmpty()) {
            all.add(new ArrayList<>(done));
        }
        for (int each : new TreeSet<>(open)) {
            List<Integer> more = new ArrayList<>(done);
            more.add(each);
            List<Integer> fewer = new ArrayList<>(open);
            fewer.remove(Integer.valueOf(each));
            permute(more, fewer, all);
        }
    }

    int order(int what) {
        if (what < -1 || what >= these().size()) {
            return -2;
        }
        List<List<Integer>> all = new ArrayList<>();
        permute(new ArrayList<>(), new ArrayList<>(these()), all);
        List<Integer> best = null;
        int most = -1;
        for (List<Integer> halls : all) {
            int minutes = together(tour(now.print, halls, -1));
            if (minutes > most) {
                most = minutes;
                best = halls;
            }
        }
        return what < 0 ? most : best.get(what);
    }

    int ride() {
        List<Integer> found = new ArrayList<>();
        for (int set = 0; set < 1 << hallList.size(); set++) {
            TreeSet<Integer> seen = new TreeSet<>();
            for (int hall : ofBits(set)) {
                seen.addAll(rest(hall, now.print));
                seen.addAll(now.drawers.get(hall));
            }
            if (seen.size() == shots.size()) {
                found.add(set);
            }
        }
        return found.stream().min((a, b) -> Integer.bitCount(a) != Integer.bitCount(b)
            ? Integer.bitCount(a) - Integer.bitCount(b) : a - b).orElse(-1);
    }

    int other(int what) {
        if (what < 0 || what > 1) {
            return -1;
        }
        List<Integer> found = new ArrayList<>();
        for (int set = 0; set < 1 << shots.size(); set++) {
            if (drawn(now).containsAll(ofBits(set)) && sensible(ofBits(set))) {
                found.add(set);
            }
        }
        found.sort((a, b) -> length(ofBits(a)) != length(ofBits(b)) ? length(ofBits(b)) - length(ofBits(a))
            : Integer.bitCount(a) != Integer.bitCount(b) ? Integer.bitCount(a) - Integer.bitCount(b) : a - b);
        return what == 0 ? length(ofBits(found.get(0))) : found.get(0);
    }

    int mends() {
        List<Integer> found = new ArrayList<>();
        for (int set = 0; set < 1 << shots.size(); set++) {
            TreeSet<Integer> row = new TreeSet<>(now.print);
            row.addAll(ofBits(set));
            if (drawn(now).containsAll(ofBits(set)) && sensible(new ArrayList<>(row))) {
                found.add(set);
            }
        }
        return found.stream().min((a, b) -> Integer.bitCount(a) != Integer.bitCount(b)
            ? Integer.bitCount(a) - Integer.bitCount(b) : a - b).orElse(-1);
    }

    int where(int shot) {
        for (int h = 0; h < hallList.size(); h++) {
            if (now.drawers.get(h).contains(shot)) {
                return h;
            }
        }
        return -1;
    }

    int taste(int hall, int other) {
        if (!isHall(hall) || !isHall(other) || hall == other) {
            return -1;
        }
        int alike = 0;
        for (int s = 0; s < shots.size(); s++) {
            alike += hates(hall, List.of(s), 0) == hates(other, List.of(s), 0) ? 1 : 0;
        }
        return alike;
    }

    int mild() {
        int best = -1;
        int least = Integer.MAX_VALUE;
        for (int h = 0; h < hallList.size(); h++) {
            int minutes = length(out(h, beginning().print));
            if (minutes < least) {
                least = minutes;
                best = h;
            }
        }
        return best;
    }

    boolean see(int shot, boolean isShown) {
        if (!isShot(shot) || seenList.size() == 8) {
            return false;
        }
        seenList.add(new int[] {shot, isShown ? 1 : 0});
        return true;
    }

    int halls() {
        int set = 0;
        for (int h = 0; h < hallList.size(); h++) {
            List<Integer> row = rest(h, now.print);
            if (seenList.stream().allMatch(s -> row.contains(s[0]) == (s[1] == 1))) {
                set |= 1 << h;
            }
        }
        return set;
    }

    int ask() {
        List<Integer> candidates = ofBits(halls());
        int best = -1;
        int least = candidates.size();
        for (int s = 0; s < shots.size(); s++) {
            int yes = 0;
            for (int h : candidates) {
                yes += rest(h, now.print).contains(s) ? 1 : 0;
            }
            int greater = Math.max(yes, candidates.size() - yes);
            if (greater < least) {
                least = greater;
                best = s;
            }
        }
        return best;
    }

    int rests(int high, int low, int alone, int what) {
        for (int n : new int[] {high, low, alone}) {
            if (n < 0 || n > 9) {
                throw new NoSuchElementException();
            }
        }
        int[][] own = {{low, 0}, {alone, high}};
        List<Integer> found = new ArrayList<>();
        for (int first = 0; first < 2; first++) {
            for (int second = 0; second < 2; second++) {
                if (own[first][second] >= own[1 - first][second] && own[second][first] >= own[1 - second][first]) {
                    found.add(2 * first + second);
                }
            }
        }
        if (what < -1 || what >= found.size()) {
            throw new NoSuchElementException();
        }
        return what == -1 ? found.size() : found.get(what);
    }

    int share(int hall) {
        if (!isHall(hall)) {
            return -1;
        }
        int all = length(drawn(now));
        return all == 0 ? 0 : length(now.drawers.get(hall)) * 1000 / all;
    }

    private java.math.BigInteger g;

    private int draw(int m) {
        g = g.multiply(java.math.BigInteger.valueOf(1103515245)).add(java.math.BigInteger.valueOf(12345))
            .mod(java.math.BigInteger.valueOf(2147483648L));
        return g.divide(java.math.BigInteger.valueOf(65536)).mod(java.math.BigInteger.valueOf(m)).intValue();
    }

    int tours(int seed, int shows, int what) {
        if (seed < 0 || seed > 9999 || shows < 1 || shows > 99 || what < 0 || what > 2) {
            return -1;
        }
        g = java.math.BigInteger.valueOf(seed);
        State s = now.copy();
        int minutes = 0;
        int senseless = 0;
        for (int i = 0; i < shows; i++) {
            if (!hallList.isEmpty()) {
                cut(s, draw(hallList.size()));
                minutes += length(s.print);
                senseless += sensible(s.print) ? 0 : 1;
            }
            List<Integer> drawn = new ArrayList<>(drawn(s));
            if (!drawn.isEmpty() && draw(4) == 0) {
                int shot = drawn.get(draw(drawn.size()));
                for (int h = 0; h < hallList.size(); h++) {
                    if (s.drawers.get(h).contains(shot)) {
                        giveIn(s, h, shot);
                    }
                }
            }
        }
        return what == 0 ? minutes : what == 1 ? senseless : bits(s.print);
    }

    boolean mark(int mark, boolean back) {
        if (mark < 0 || mark > 3 || back && !laid.containsKey(mark)) {
            return false;
        }
        if (back) {
            Laid l = laid.get(mark);
            now = l.state.copy();
            lines = l.round;
            seenList = new ArrayList<>(l.seen);
            past.clear();
        } else {
            laid.put(mark, new Laid(now.copy(), lines, new ArrayList<>(seenList)));
        }
        return true;
    }

    int count(int what) {
        int[] all = {shots.size(), hallList.size(), bits(now.print), length(now.print),
            hallList.isEmpty() ? -1 : now.next, now.tours, bits(drawn(now)), lines.size(), seenList.size(),
            past.size(), tape.length()};
        return what < 0 || what >= all.length ? -1 : all[what];
    }
}
