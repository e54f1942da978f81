/** Promises 12 to 35: what can be asked, on counties small enough to be worked out by hand. */
public final class AskingTest {
    public static void main(String[] args) {
        judged();
        shownAndMinutes();
        silly();
        lasts();
        sense();
        gone();
        saves();
        kin();
        hoard();
        longest();
        order();
        ride();
        other();
        mends();
        where();
        taste();
        mild();
        seeHallsAsk();
        rests();
        share();
        tours();
        Due.end();
    }

    // Promise 12
    private static void judged() {
        CountyPrint x = Due.of(Counties.HATS);
        x.show();
        x.turn();
        Due.due("round", Due.round(x, "show;give bap kiss;show;trade bap mine kiss;turn;show;show;show;give kin hat;"), 0);
        Due.due("can't be", x.judged(0), 3);
        Due.due("no sense", x.judged(1), 0);
        Due.due("minutes", x.judged(2), 14 + 7 + 3 + 3 + 3);
        Due.due("all is as ahead", x.count(2), 14);
        Due.due("all is as ahead", x.hall(0, 2), 3);
        Due.due("judged(3)", x.judged(3), -2);
        Due.due("judged(-1)", x.judged(-1), -2);
        Due.due("judged(MIN)", x.judged(Integer.MIN_VALUE), -2);
        Due.round(x, "turn;turn;turn;");
        Due.due("turns can be", x.judged(0), -1);
        Due.due("nothing shown", x.judged(1), -1);
        Due.due("nothing shown", x.judged(2), 0);
        Due.round(x, "show;give bap kiss;show;");
        Due.due("all can be", x.judged(0), -1);
        Due.round(x, "show;trade bap chap kiss;trade chap bap kiss;give bap kiss;trade bap chap kiss;turn;give chap kiss;");
        Due.due("not in the drawer", x.judged(0), 4);
        x = Due.of("shot a sort 1 long 3;shot b sort 2 long 4;needs b a;hall h plain hates place=0 and 1<kind;"
            + "hall i keen hates kind=1;");
        Due.round(x, "turn;give h a;show;turn;show;show;show;show;");
        Due.due("can't be", x.judged(0), 1);
        Due.due("i takes a", x.judged(1), 4);
        Due.due("minutes", x.judged(2), 7 + 4 + 0 + 0 + 0);
        x = Due.of(Counties.CALM);
        Due.round(x, "show;turn;show;");
        Due.due("all makes sense", x.judged(1), -1);
        Due.due("minutes", x.judged(2), 16);
        x = Due.of("shot a sort 1 long 3;");
        Due.round(x, "turn;turn;show;show;");
        Due.due("no hall", x.judged(0), 2);
        Due.due("no hall", x.judged(1), -1);
        Due.due("no hall", x.judged(2), 0);
    }

    // Promises 13 and 14
    private static void shownAndMinutes() {
        CountyPrint x = Due.of(Counties.HATS);
        int[][] rows = {{1, 2, 3, -1}, {1, 3, -1}, {1, -1}, {-1}};
        int[] minutes = {14, 7, 3, 0};
        for (int hall = 0; hall < 4; hall++) {
            Due.due("minutes", x.minutes(hall), minutes[hall]);
            for (int i = 0; i < rows[hall].length; i++) {
                Due.due("shown(" + hall + ", " + i + ")", x.shown(hall, i), rows[hall][i]);
            }
        }
        Due.due("shown(0, -1)", x.shown(0, -1), -1);
        Due.due("shown(0, MIN)", x.shown(0, Integer.MIN_VALUE), -1);
        Due.due("shown(0, MAX)", x.shown(0, Integer.MAX_VALUE), -1);
        Due.due("shown(4, 0)", x.shown(4, 0), -1);
        Due.due("shown(-1, 0)", x.shown(-1, 0), -1);
        Due.due("minutes(4)", x.minutes(4), -1);
        Due.due("minutes(-1)", x.minutes(-1), -1);
        x.show();
        Due.due("it is over there", x.minutes(0), -1);
        Due.due("it is over there", x.shown(0, 0), -1);
        Due.due("minutes", x.minutes(1), 7);
        x.turn();
        Due.due("the order is turned", x.minutes(0), 7);
        Due.due("the order is turned", x.minutes(2), -1);
        Due.due("the order is turned", x.shown(3, 0), -1);
        Due.due("shown", x.shown(0, 1), 3);
    }

    // Promise 15
    private static void silly() {
        Due.due("silly", Due.of(Counties.HATS).silly(), 0);
        Due.due("none", Due.of(Counties.CALM).silly(), -1);
        String two = "shot a sort 1 long 3;shot b sort 2 long 4;needs b a;hall h plain hates 0;";
        CountyPrint x = Due.of(two + "hall i plain hates kind=1;hall j plain hates kind=2;");
        Due.due("the second one", x.silly(), 1);
        x.turn();
        Due.due("the first one alone is left", x.silly(), -1);
        x.show();
        Due.due("j is first now", x.silly(), -1);
        x = Due.of(two + "hall i plain hates 1;");
        Due.due("nothing makes sense, too", x.silly(), -1);
        Due.due("no hall", Due.of("shot a sort 1 long 3;shot b sort 1 long 3;needs a b;").silly(), -1);
        Due.due("what it needs is behind it",
            Due.of("shot a sort 1 long 3;shot b sort 1 long 3;needs a b;hall h plain hates 0;").silly(), 0);
    }

    // Promise 16
    private static void lasts() {
        CountyPrint x = Due.of(Counties.HATS);
        Due.due("lasts", x.lasts(), 4);
        Due.due("all is as ahead", x.count(2), 31);
        x.show();
        Due.due("lasts", x.lasts(), 3);
        Due.due("for ever", Due.of(Counties.CALM).lasts(), -1);
        Due.due("no shots", Due.of("hall h plain hates 0;").lasts(), 0);
        Due.due("no halls", Due.of("shot a sort 1 long 1;").lasts(), -1);
        Due.due("a miner's keeps the last one in", Due.of("shot a sort 1 long 1;hall h miner hates 1;").lasts(), -1);
        StringBuilder ten = new StringBuilder();
        for (char name = 'a'; name <= 'j'; name++) {
            ten.append("shot ").append(name).append(" sort 1 long 1;");
        }
        Due.due("one a show", Due.of(ten + "hall p keen hates 1;").lasts(), 10);
        Due.due("one a tour of six", Due.of(ten + "hall p keen hates 0;hall q keen hates 0;hall r keen hates 0;"
            + "hall s keen hates 0;hall t keen hates 0;hall u keen hates 1;").lasts(), 60);
    }

    // Promise 17
    private static void sense() {
        CountyPrint x = Due.of(Counties.HATS);
        Due.due("sense", x.sense(), true);
        x.show();
        Due.due("work without the kiss", x.sense(), false);
        x.give(0, 0);
        Due.due("sense", x.sense(), true);
        x.give(0, 4);
        Due.due("sense", x.sense(), true);
        String two = "shot a sort 1 long 1;shot b sort 1 long 1;";
        Due.due("ahead", Due.of(two + "needs b a;").sense(), true);
        Due.due("behind", Due.of(two + "needs a b;").sense(), false);
        Due.due("both", Due.of(two + "needs a b;needs b a;").sense(), false);
        Due.due("an empty row", Due.of("").sense(), true);
    }

    // Promise 18
    private static void gone() {
        CountyPrint x = Due.of(Counties.HATS);
        int[] halls = {0, 3, 1, 2, 0};
        for (int shot = 0; shot < 5; shot++) {
            Due.due("gone(" + shot + ")", x.gone(shot), halls[shot]);
        }
        Due.due("gone(5)", x.gone(5), -1);
        Due.due("gone(-1)", x.gone(-1), -1);
        Due.due("gone(32)", x.gone(32), -1);
        x.show();
        Due.due("not in the print", x.gone(0), -1);
        Due.due("by the next ones", x.gone(1), 3);
        x.turn();
        Due.due("none of these", x.gone(1), -1);
        Due.due("by the next one", x.gone(2), 1);
    }

    // Promise 19
    private static void saves() {
        CountyPrint x = Due.of(Counties.HATS);
        Due.due("saves(0)", Due.saves(x, 0), 11);
        Due.due("saves(3)", Due.saves(x, 3), 3);
        Due.due("saves(4)", Due.saves(x, 4), Due.THROWS);
        Due.due("saves(-1)", Due.saves(x, -1), Due.THROWS);
        Due.due("saves(MIN)", Due.saves(x, Integer.MIN_VALUE), Due.THROWS);
        x.show();
        Due.due("not one of these", Due.saves(x, 0), Due.THROWS);
        // mine 7, kin 3, chap 0; spared, mine shows 14, kin takes work: 7, chap takes hat and horse: 0.
        Due.due("saves(1)", Due.saves(x, 1), 21 - 10);
        Due.due("a new one", Due.saves(new CountyPrint(), 0), Due.THROWS);
        // With a, b is at the place 1 and goes; without, b stays.
        x = Due.of("shot a sort 1 long 1;shot b sort 2 long 60;hall h plain hates kind=1;"
            + "hall i plain hates kind=2 and place=1;");
        Due.due("fewer", Due.saves(x, 0), (61 + 1) - (60 + 60));
        Due.due("none", Due.saves(x, 1), 0);
    }

    // Promise 20
    private static void kin() {
        CountyPrint x = Due.of("shot a sort 1 long 1;shot b sort 1 long 1;shot c sort 1 long 1;shot d sort 1 long 1;"
            + "shot e sort 1 long 1;needs d c;needs c b;needs c a;needs a e;needs e a;");
        Due.due("kin(3)", x.kin(3), 1 + 2 + 4 + 16);
        Due.due("kin(2)", x.kin(2), 1 + 2 + 16);
        Due.due("kin(1)", x.kin(1), 0);
        Due.due("in a ring it is its own", x.kin(0), 1 + 16);
        Due.due("kin(5)", x.kin(5), -1);
        Due.due("kin(-1)", x.kin(-1), -1);
        StringBuilder chain = new StringBuilder();
        for (char name = 'a'; name <= 'j'; name++) {
            chain.append("shot ").append(name).append(" sort 1 long 1;");
        }
        for (char name = 'a'; name < 'j'; name++) {
            chain.append("needs ").append(name).append(' ').append((char) (name + 1)).append(';');
        }
        Due.due("a long chain", Due.of(chain.toString()).kin(0), 1022);
    }

    // Promise 21
    private static void hoard() {
        CountyPrint x = Due.of("shot a sort 0 long 4;shot b sort 9 long 2;shot c sort 0 long 2;shot d sort 0 long 2;"
            + "hall h keen hates minutes=2 and kind=0;hall i keen hates minutes=2;hall j plain hates 1;");
        Due.due("nothing", x.hoard(0), -1);
        x.show();
        x.show();
        Due.due("c", x.hoard(0), 0);
        Due.due("b", x.hoard(9), 1);
        x.show();
        Due.due("a and d", x.hoard(0), 2);
        x.trade(2, 0, 3);
        Due.due("as much: the first one", x.hoard(0), 0);
        x.trade(0, 1, 3);
        Due.due("a alone", x.hoard(0), 2);
        Due.due("a sort of none", x.hoard(5), -1);
        Due.due("hoard(10)", x.hoard(10), -1);
        Due.due("hoard(-1)", x.hoard(-1), -1);
    }

    // Promise 22
    private static void longest() {
        Due.due("kiss to horse", Due.of(Counties.HATS).longest(), 4);
        CountyPrint x = Due.of("shot a sort 1 long 1;shot b sort 1 long 1;shot c sort 2 long 1;shot d sort 1 long 1;"
            + "shot e sort 3 long 1;shot f sort 2 long 1;shot g sort 3 long 1;hall h keen hates kind=2 and ahead=1;"
            + "hall i plain hates 1;");
        Due.due("c d e", x.longest(), 3);
        x.show();
        Due.due("without c: d e f", x.longest(), 3);
        x.show();
        Due.due("nothing", x.longest(), 0);
        Due.due("all alike", Due.of("shot a sort 1 long 1;shot b sort 1 long 1;").longest(), 1);
    }

    // Promise 23
    private static void order() {
        CountyPrint x = Due.of(Counties.HATS);
        int[] halls = {2, 0, 3, 1};
        Due.due("minutes", x.order(-1), 38);
        for (int i = 0; i < 4; i++) {
            Due.due("order(" + i + ")", x.order(i), halls[i]);
        }
        Due.due("order(4)", x.order(4), -2);
        Due.due("order(-2)", x.order(-2), -2);
        Due.due("order(MIN)", x.order(Integer.MIN_VALUE), -2);
        Due.due("order(MAX)", x.order(Integer.MAX_VALUE), -2);
        x.show();
        x.show();
        // hat 3 and horse 4: kin takes the horse, chap both. kin first: 3 + 0; chap first: nothing.
        Due.due("of two", x.order(-1), 3);
        Due.due("of two", x.order(0), 2);
        Due.due("of two", x.order(1), 3);
        Due.due("of two", x.order(2), -2);
        x.turn();
        // These are kin, mine and bap now: mine and bap take nothing of it, kin is best last.
        Due.due("of three", x.order(-1), 7 + 7 + 3);
        Due.due("of three: by numbers", x.order(0) * 100 + x.order(1) * 10 + x.order(2), 12);
        x = Due.of(Counties.CALM);
        Due.due("equal ones", x.order(0) * 10 + x.order(1), 1);
        x.turn();
        Due.due("the last one alone", x.order(-1), 8);
        Due.due("the last one alone", x.order(0), 0);
        Due.due("the last one alone", x.order(1), -2);
        x = Due.of("shot a sort 1 long 1;");
        Due.due("no hall", x.order(-1), 0);
        Due.due("no hall", x.order(0), -2);
        Due.due("no shot", Due.of("hall h plain hates 1;").order(-1), 0);
    }

    // Promise 24
    private static void ride() {
        CountyPrint x = Due.of(Counties.HATS);
        Due.due("bap and chap", x.ride(), 9);
        x.show();
        // bap shows hat, work, horse and has the others in its drawer.
        Due.due("bap", x.ride(), 1);
        x.trade(0, 1, 0);
        // mine shows hat and horse and has the kiss; shrug is at bap's; work is shown by it, too.
        Due.due("bap and mine", x.ride(), 3);
        Due.due("none", Due.of("shot a sort 1 long 1;hall h plain hates 1;").ride(), -1);
        Due.due("no hall", Due.of("shot a sort 1 long 1;").ride(), -1);
        Due.due("no shot", Due.of("hall h plain hates 1;").ride(), 0);
        Due.due("of equal ones the least", Due.of(Counties.CALM).ride(), 1);
        x = Due.of("shot a sort 1 long 1;shot b sort 2 long 1;shot c sort 3 long 1;hall h plain hates 1<kind;"
            + "hall i plain hates not(kind=2);hall j plain hates kind<3;hall k plain hates kind=1;");
        Due.due("two, not three", x.ride(), 9);
    }

    // Promise 25
    private static void other() {
        CountyPrint x = Due.of(Counties.HATS);
        Due.due("nothing", x.other(0), 0);
        Due.due("nothing", x.other(1), 0);
        x.show();
        Due.due("the kiss", x.other(0), 5);
        Due.due("the kiss", x.other(1), 1);
        x.show();
        Due.due("kiss and work", x.other(0), 12);
        Due.due("kiss and work", x.other(1), 5);
        x.show();
        Due.due("kiss, work, horse, shrug", x.other(1), 1 + 4 + 8 + 16);
        Due.due("other(2)", x.other(2), -1);
        Due.due("other(-1)", x.other(-1), -1);
        Due.due("other(MAX)", x.other(Integer.MAX_VALUE), -1);
        x = Due.of("shot a sort 1 long 9;shot b sort 1 long 8;needs a b;hall h plain hates 1;");
        x.show();
        Due.due("a needs b ahead", x.other(1), 2);
        Due.due("a needs b ahead", x.other(0), 8);
    }

    // Promise 26
    private static void mends() {
        CountyPrint x = Due.of(Counties.HATS);
        Due.due("nothing", x.mends(), 0);
        x.show();
        Due.due("the kiss", x.mends(), 1);
        x.give(0, 0);
        Due.due("nothing", x.mends(), 0);
        x = Due.of("shot a sort 1 long 1;shot b sort 1 long 1;shot c sort 2 long 1;needs c b;needs b a;"
            + "hall h plain hates kind=1;");
        x.show();
        Due.due("b, and what b needs", x.mends(), 3);
        x = Due.of("shot a sort 2 long 1;shot b sort 1 long 1;needs a b;hall h plain hates kind=1;");
        Due.due("by none", x.mends(), -1);
        x.show();
        Due.due("by none", x.mends(), -1);
        x = Due.of("shot a sort 2 long 1;shot b sort 1 long 1;needs b a;needs a b;hall h plain hates 1;");
        x.show();
        Due.due("an empty print", x.mends(), 0);
    }

    // Promise 27
    private static void where() {
        CountyPrint x = Due.of(Counties.HATS);
        Due.due("where(0)", x.where(0), -1);
        x.show();
        x.show();
        Due.due("where(0)", x.where(0), 0);
        Due.due("where(2)", x.where(2), 1);
        Due.due("where(1)", x.where(1), -1);
        x.trade(0, 3, 4);
        Due.due("where(4)", x.where(4), 3);
        Due.due("where(5)", x.where(5), -1);
        Due.due("where(-1)", x.where(-1), -1);
        Due.due("where(32)", x.where(32), -1);
        Due.due("where(-32)", x.where(-32), -1);
    }

    // Promise 28
    private static void taste() {
        CountyPrint x = Due.of(Counties.HATS);
        Due.due("taste(0, 1)", x.taste(0, 1), 4);
        Due.due("taste(1, 0)", x.taste(1, 0), 4);
        Due.due("taste(0, 3)", x.taste(0, 3), 2);
        x.show();
        x.show();
        Due.due("of all shots, not the print's", x.taste(0, 1), 4);
        Due.due("the same", x.taste(1, 1), -1);
        Due.due("taste(0, 4)", x.taste(0, 4), -1);
        Due.due("taste(4, 0)", x.taste(4, 0), -1);
        Due.due("taste(-1, 0)", x.taste(-1, 0), -1);
        Due.due("taste(0, -1)", x.taste(0, -1), -1);
        x = Due.of("shot a sort 1 long 1;shot b sort 1 long 1;hall h plain hates place=0 and ahead=10;"
            + "hall i miner hates 5;hall j keen hates place=1 or ahead=1;");
        Due.due("each alone in a row", x.taste(0, 1), 2);
        Due.due("each alone in a row", x.taste(0, 2), 0);
    }

    // Promise 29
    private static void mild() {
        CountyPrint x = Due.of(Counties.HATS);
        Due.due("kin", x.mild(), 2);
        for (int i = 0; i < 4; i++) {
            x.show();
        }
        Due.due("of the whole film", x.mild(), 2);
        Due.due("equal ones", Due.of(Counties.CALM).mild(), 0);
        Due.due("no hall", Due.of("shot a sort 1 long 1;").mild(), -1);
        Due.due("no shot", Due.of("hall h plain hates 1;").mild(), 0);
        Due.due("minutes, not shots", Due.of("shot a sort 1 long 9;shot b sort 2 long 1;shot c sort 2 long 1;"
            + "hall h plain hates kind=1;hall i plain hates kind=2;").mild(), 1);
    }

    // Promises 30 to 32
    private static void seeHallsAsk() {
        CountyPrint x = Due.of(Counties.HATS);
        Due.due("halls", x.halls(), 15);
        Due.due("ask", x.ask(), 2);
        Due.due("see(5)", x.see(5, true), false);
        Due.due("see(-1)", x.see(-1, true), false);
        Due.due("see", x.see(0, false), true);
        Due.due("halls", x.halls(), 7);
        Due.due("ask", x.ask(), 2);
        Due.due("see", x.see(2, true), true);
        Due.due("halls", x.halls(), 5);
        Due.due("ask", x.ask(), 4);
        Due.due("see", x.see(4, true), true);
        Due.due("halls", x.halls(), 4);
        Due.due("one parts no more", x.ask(), -1);
        Due.due("see", x.see(4, false), true);
        Due.due("halls", x.halls(), 0);
        Due.due("none", x.ask(), -1);
        for (int i = 5; i <= 8; i++) {
            Due.due("see", x.see(4, false), true);
            Due.due("seen", x.count(8), i);
        }
        Due.due("8 there are", x.see(4, false), false);
        Due.due("seen", x.count(8), 8);
        seenWithThePrintAsItIs();
        x = Due.of(Counties.CALM);
        Due.due("all", x.halls(), 3);
        Due.due("none parts them", x.ask(), -1);
        Due.due("no hall", Due.of("shot a sort 1 long 1;").halls(), 0);
        Due.due("no hall", Due.of("shot a sort 1 long 1;").ask(), -1);
    }

    /** What was seen is held against the print as it is when the halls are asked for. */
    private static void seenWithThePrintAsItIs() {
        CountyPrint x = Due.of(Counties.HATS);
        x.see(2, true);
        Due.due("halls", x.halls(), 5);
        x.show();
        Due.due("kin takes work now", x.halls(), 1);
        x.see(0, false);
        Due.due("none shows what is out", x.halls(), 1);
        x.undo();
        Due.due("bap and kin", x.halls(), 5);
    }

    // Promise 33
    private static void rests() {
        CountyPrint x = new CountyPrint();
        Due.due("how many", Due.rests(x, 3, 5, 4, -1), 2);
        Due.due("both low", Due.rests(x, 3, 5, 4, 0), 0);
        Due.due("both high", Due.rests(x, 3, 5, 4, 1), 3);
        Due.due("no third one", Due.rests(x, 3, 5, 4, 2), Due.THROWS);
        Due.due("one high alone", Due.rests(x, 3, 4, 5, -1), 1);
        Due.due("one high alone", Due.rests(x, 3, 4, 5, 0), 3);
        Due.due("high is worth nothing", Due.rests(x, 0, 4, 5, -1), 3);
        Due.due("high is worth nothing", Due.rests(x, 0, 4, 5, 0), 1);
        Due.due("high is worth nothing", Due.rests(x, 0, 4, 5, 1), 2);
        Due.due("high is worth nothing", Due.rests(x, 0, 4, 5, 2), 3);
        Due.due("all alike", Due.rests(x, 0, 0, 0, -1), 4);
        Due.due("all alike", Due.rests(x, 0, 0, 0, 3), 3);
        Due.due("all alike", Due.rests(x, 0, 0, 0, 4), Due.THROWS);
        Due.due("nines", Due.rests(x, 9, 9, 9, -1), 2);
        Due.due("ten", Due.rests(x, 10, 0, 0, -1), Due.THROWS);
        Due.due("ten", Due.rests(x, 0, 10, 0, -1), Due.THROWS);
        Due.due("ten", Due.rests(x, 0, 0, 10, -1), Due.THROWS);
        Due.due("less than 0", Due.rests(x, -1, 0, 0, -1), Due.THROWS);
        Due.due("less than 0", Due.rests(x, 0, -1, 0, -1), Due.THROWS);
        Due.due("less than 0", Due.rests(x, 0, 0, -1, -1), Due.THROWS);
        Due.due("what -2", Due.rests(x, 3, 5, 4, -2), Due.THROWS);
        Due.due("what MAX", Due.rests(x, 3, 5, 4, Integer.MAX_VALUE), Due.THROWS);
        Model model = new Model();
        for (int n = 0; n < 4000; n++) {
            int want;
            try {
                want = model.rests(n % 10, n / 10 % 10, n / 100 % 10, n / 1000 - 1);
            } catch (java.util.NoSuchElementException e) {
                want = Due.THROWS;
            }
            Due.due("rests " + n, Due.rests(x, n % 10, n / 10 % 10, n / 100 % 10, n / 1000 - 1), want);
        }
    }

    // Promise 34
    private static void share() {
        CountyPrint x = Due.of(Counties.HATS);
        Due.due("none lie there", x.share(0), 0);
        x.show();
        Due.due("all", x.share(0), 1000);
        Due.due("none of its own", x.share(1), 0);
        x.trade(0, 1, 4);
        Due.due("5 of 7", x.share(0), 714);
        Due.due("2 of 7", x.share(1), 285);
        Due.due("share(4)", x.share(4), -1);
        Due.due("share(-1)", x.share(-1), -1);
        Due.due("a new one", new CountyPrint().share(0), -1);
    }

    // Promise 35
    private static void tours() {
        CountyPrint x = Due.of(Counties.HATS);
        // Seed 0: 12345 / 65536 = 0: bap shows 14, no sense. Then g = 1406932606: 21468 modulo 4 is 0;
        // g = 654583775: 9988 modulo 2 is 0: the kiss is given back.
        Due.due("minutes of one", x.tours(0, 1, 0), 14);
        Due.due("senseless of one", x.tours(0, 1, 1), 1);
        Due.due("print of one", x.tours(0, 1, 2), 15);
        // Seed 1: g = 1103527590: 16838 modulo 4 is 2: kin takes the kiss, 16 and no sense. Then
        // g = 377401575: 5758 modulo 4 is 2: nothing is given back. g = 662824084: 10113 modulo 4 is 1:
        // mine takes work: 9. g = 1147902781: 17515 modulo 4 is 3: nothing.
        Due.due("minutes of two", x.tours(1, 2, 0), 16 + 9);
        Due.due("senseless of two", x.tours(1, 2, 1), 1);
        Due.due("print of two", x.tours(1, 2, 2), 2 + 8 + 16);
        Due.due("all is as ahead", x.count(2), 31);
        Due.due("all is as ahead", x.count(4) + x.count(5) + x.count(6) + x.count(9), 0);
        Due.due("shows 0", x.tours(0, 0, 0), -1);
        Due.due("shows 100", x.tours(0, 100, 0), -1);
        Due.due("seed -1", x.tours(-1, 1, 0), -1);
        Due.due("seed 10000", x.tours(10000, 1, 0), -1);
        Due.due("what -1", x.tours(0, 1, -1), -1);
        Due.due("what 3", x.tours(0, 1, 3), -1);
        Due.due("shows 99, seed 9999", x.tours(9999, 99, 0) >= 0, true);
        x = Due.of(Counties.CALM);
        Due.due("8 each", x.tours(7, 99, 0), 8 * 99);
        Due.due("none senseless", x.tours(7, 99, 1), 0);
        Due.due("all is there", x.tours(7, 99, 2), 3);
        x = Due.of("shot a sort 1 long 1;");
        Due.due("no hall", x.tours(7, 99, 0), 0);
        Due.due("no hall", x.tours(7, 99, 2), 1);
    }
}
