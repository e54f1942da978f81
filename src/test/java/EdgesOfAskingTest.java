/** The boundary cases of promises 13 to 35: what is asked. */
public final class EdgesOfAskingTest {
    /** Ten shots of a minute, one hall that takes all, one that takes nothing. */
    private static final String ALL = Edges.shots(10) + "hall u plain hates 1;hall v plain hates 0;";
    /** Ten shots of an hour and no hall. */
    private static final String HOURS = Edges.shots(10).replace("long 1", "long 60");
    /** Three shots of the sorts 1, 2, 3, which take 1, 2 and 4 minutes. */
    private static final String THREE = "shot a sort 1 long 1;shot b sort 2 long 2;shot c sort 3 long 4;";

    public static void main(String[] args) {
        Edges.run(EdgesOfAskingTest.class);
    }

    // ---- Promise 13

    /** Promise 13, "NONE: others": each number that is no HALL's. */
    static void p13Others() {
        CountyPrint x = Due.of(THREE + Edges.halls(4, "plain hates 0"));
        Due.due("the last one", x.shown(3, 0), 0);
        for (int hall : Edges.others(4)) {
            Due.due("shown(" + hall + ", 0)", x.shown(hall, 0), -1);
        }
        Due.due("no halls", Due.of(THREE).shown(0, 0), -1);
    }

    /** Promise 13, "NONE: ... no i-th one": from 0 to the last one of the row, and no further. */
    static void p13NoSuchPlace() {
        CountyPrint x = Due.of(HOURS + "hall u plain hates 0;hall v plain hates 0<place;hall w plain hates 1;");
        for (int i = 0; i < 10; i++) {
            Due.due("shown(0, " + i + ")", x.shown(0, i), i);
        }
        for (int i : Edges.others(10)) {
            Due.due("shown(0, " + i + ")", x.shown(0, i), -1);
        }
        Due.due("a row of one", x.shown(1, 0), 0);
        Due.due("a row of one", x.shown(1, 1), -1);
        Due.due("an empty row", x.shown(2, 0), -1);
    }

    /** "SHOWN once at each HALL from the next one to the last one of the order": the ones ahead of it are none of these. */
    static void p13NotOneOfThese() {
        CountyPrint x = Due.of(THREE + Edges.halls(3, "plain hates 0"));
        for (int next = 0; next < 3; next++) {
            for (int hall = 0; hall < 3; hall++) {
                Due.due("shown(" + hall + ", 2)", x.shown(hall, 2), hall >= next ? 2 : -1);
            }
            x.turn();
            for (int hall = 0; hall < 3; hall++) {
                Due.due("turned, shown(" + hall + ", 2)", x.shown(hall, 2), hall <= next ? 2 : -1);
            }
            x.turn();
            x.show();
        }
        Due.due("behind the last one all are", x.shown(0, 0) + x.shown(1, 0) + x.shown(2, 0), 0);
    }

    /** What a HALL takes out no HALL behind it shows; the PRINT stays as it is. */
    static void p13OneBehindTheOther() {
        CountyPrint x = Due.of(THREE + Edges.halls(4, "keen hates 1"));
        int[] firsts = {1, 2, -1, -1};
        for (int hall = 0; hall < 4; hall++) {
            Due.due("hall " + hall, x.shown(hall, 0), firsts[hall]);
        }
        Due.due("print", x.count(2), 7);
    }

    // ---- Promise 14

    /** Promise 14, "NONE: others, not one of these HALLS". */
    static void p14OthersAndNotOneOfThese() {
        CountyPrint x = Due.of(THREE + Edges.halls(3, "plain hates 0"));
        for (int hall : Edges.others(3)) {
            Due.due("minutes(" + hall + ")", x.minutes(hall), -1);
        }
        for (int next = 0; next < 3; next++) {
            for (int hall = 0; hall < 3; hall++) {
                Due.due("minutes(" + hall + ")", x.minutes(hall), hall >= next ? 7 : -1);
            }
            x.turn();
            for (int hall = 0; hall < 3; hall++) {
                Due.due("turned, minutes(" + hall + ")", x.minutes(hall), hall <= next ? 7 : -1);
            }
            x.turn();
            x.show();
        }
        Due.due("no halls", Due.of(THREE).minutes(0), -1);
    }

    /** "MINUTES: how long all is that it shows": 0 of nothing, which is not NONE; 600 of the longest. */
    static void p14NothingAndTheMost() {
        CountyPrint x = Due.of(HOURS + "hall u plain hates 0;hall v plain hates place<9;hall w plain hates 1;");
        Due.due("all", x.minutes(0), 600);
        Due.due("the last one", x.minutes(1), 60);
        Due.due("nothing", x.minutes(2), 0);
        Due.due("without shots", Due.of("hall h keen hates 1;").minutes(0), 0);
    }

    // ---- Promise 15

    /** Promise 15, "NONE: none": all makes sense, a row of nothing does, and without a HALL nothing is shown. */
    static void p15None() {
        Due.due("sense", Due.of(Counties.CALM).silly(), -1);
        String needs = "shot a sort 1 long 1;shot b sort 2 long 1;needs a b;";
        Due.due("no sense", Due.of(needs + "hall h plain hates 0;").silly(), 0);
        Due.due("a row of nothing", Due.of(needs + "hall h plain hates 1;").silly(), -1);
        Due.due("no hall", Due.of(needs).silly(), -1);
        Due.due("a hall that takes out what makes none", Due.of(needs + "hall h plain hates kind=1;").silly(), -1);
    }

    /** "the first one of these HALLS (in the order)": of two the first, of a turned order the one of the greater number. */
    static void p15TheFirstInTheOrder() {
        CountyPrint x = Due.of("shot a sort 1 long 1;shot b sort 2 long 1;needs b a;hall u plain hates 0;"
            + "hall v plain hates kind=1;hall w plain hates 0;");
        Due.due("v is the first", x.silly(), 1);
        x.turn();
        Due.due("of u alone", x.silly(), -1);
        x.show();
        Due.due("of w, v, u", x.silly(), 1);
        x.show();
        Due.due("of v, u", x.silly(), 1);
        x.show();
        Due.due("of u alone, without a", x.silly(), 0);
        x.show();
        Due.due("of w, v, u, without a", x.silly(), 2);
    }

    /** "these HALLS": one ahead of the next one is none of them. */
    static void p15NotThoseAheadOfTheNext() {
        CountyPrint x = Due.of("shot a sort 1 long 1;shot b sort 2 long 1;needs b a;hall u plain hates kind=1;"
            + "hall v plain hates 1;");
        Due.due("u", x.silly(), 0);
        x.show();
        Due.due("v alone", x.silly(), -1);
        x.show();
        x.give(0, 0);
        x.give(1, 1);
        Due.due("u again", x.silly(), 0);
    }

    // ---- Promise 16

    /** "LASTS: in how many SHOWS (0 ...)": 0 when the PRINT is empty, with a HALL and without one. */
    static void p16ItIsEmptyNow() {
        Due.due("no shots", Due.of("hall h plain hates 1;").lasts(), 0);
        Due.due("nothing", Due.of("").lasts(), 0);
        CountyPrint x = Due.of(ALL);
        Due.due("by the first show", x.lasts(), 1);
        x.show();
        Due.due("now", x.lasts(), 0);
    }

    /** Promise 16, "NONE: not within 99": halls that leave something, and no hall at all. */
    static void p16NotWithin99() {
        Due.due("for ever", Due.of(Counties.CALM).lasts(), -1);
        Due.due("a miner's leaves the last one", Due.of(Edges.shots(10) + "hall u miner hates 1;").lasts(), -1);
        Due.due("no hall", Due.of(THREE).lasts(), -1);
        Due.due("all but one", Due.of(THREE + "hall u plain hates 1<kind;").lasts(), -1);
    }

    /** "(... tour by tour)": one SHOT a tour of six HALLS, by the last of them: sixty, the most there can be. */
    static void p16TourByTour() {
        String five = Edges.halls(5, "keen hates 0");
        CountyPrint x = Due.of(Edges.shots(10) + five + "hall z keen hates 1;");
        for (int shows = 0; shows < 60; shows++) {
            Due.due("lasts", x.lasts(), 60 - shows);
            x.show();
        }
        Due.due("it is empty", x.count(2), 0);
        Due.due("lasts", x.lasts(), 0);
    }

    /** LASTS goes on in a turned order from the HALL that is next; all stays as it is. */
    static void p16InATurnedOrder() {
        CountyPrint x = Due.of(Edges.shots(2) + "hall u keen hates 0;hall v keen hates 0;hall w keen hates 1;");
        Due.due("w, and w again", x.lasts(), 6);
        x.turn();
        String ahead = Edges.told(x);
        Due.due("u, w, v, u, w", x.lasts(), 5);
        Edges.alike("all stays", Edges.told(x), ahead);
        Due.due("what can be undone", x.count(9), 1);
    }

    // ---- Promise 17

    /** "a row of SHOTS makes sense if ahead of each of it all that it needs stand in it": an empty one does. */
    static void p17AnEmptyRow() {
        CountyPrint x = Due.of("shot a sort 1 long 1;shot b sort 1 long 1;needs a b;hall h plain hates 1;");
        Due.due("a needs b", x.sense(), false);
        x.show();
        Due.due("an empty row", x.sense(), true);
        x.give(0, 1);
        Due.due("b alone", x.sense(), true);
        Due.due("no shots", Due.of("").sense(), true);
    }

    /** "ahead of each of it": what stands behind it does not count, and what lies in a DRAWER does not. */
    static void p17AheadOfIt() {
        String two = "shot a sort 1 long 1;shot b sort 2 long 1;";
        Due.due("ahead", Due.of(two + "needs b a;").sense(), true);
        Due.due("behind", Due.of(two + "needs a b;").sense(), false);
        Due.due("a ring", Due.of(two + "needs a b;needs b a;").sense(), false);
        CountyPrint x = Due.of(two + "needs b a;hall h plain hates kind=1;");
        x.show();
        Due.due("in a drawer", x.sense(), false);
        x.give(0, 0);
        Due.due("given back", x.sense(), true);
    }

    /** "all that it needs": the last of nine that is missing is enough to make none. */
    static void p17AllThatItNeeds() {
        StringBuilder text = new StringBuilder(Edges.shots(10));
        for (char name = 'a'; name < 'j'; name++) {
            text.append("needs j ").append(name).append(';');
        }
        CountyPrint x = Due.of(text + "hall u plain hates 1;");
        Due.due("all nine", x.sense(), true);
        x.show();
        for (int shot = 9; shot >= 0; shot--) {
            Due.due("sense", x.sense(), shot == 9);
            x.give(0, shot);
        }
        Due.due("all nine", x.sense(), true);
    }

    // ---- Promise 18

    /** Promise 18, "NONE: others": each number that is no SHOT's. */
    static void p18Others() {
        CountyPrint x = Due.of(ALL);
        for (int shot = 0; shot < 10; shot++) {
            Due.due("gone(" + shot + ")", x.gone(shot), 0);
        }
        for (int shot : Edges.others(10)) {
            Due.due("gone(" + shot + ")", x.gone(shot), -1);
        }
        for (int shot : Edges.others(5)) {
            Due.due("gone(" + shot + ")", Due.of(Counties.HATS).gone(shot), -1);
        }
    }

    /** Promise 18, "NONE: ... not in the PRINT": though a HALL would take it out of the whole FILM. */
    static void p18NotInThePrint() {
        CountyPrint x = Due.of(THREE + Edges.halls(2, "plain hates 1"));
        Due.due("in the print", x.gone(0), 0);
        x.show();
        Due.due("in a drawer", x.gone(0), -1);
        x.give(0, 0);
        Due.due("given back", x.gone(0), 1);
    }

    /** Promise 18, "NONE: ... by none", and "the first of these HALLS": of two the first, none ahead of the next. */
    static void p18TheFirstOfThese() {
        CountyPrint x = Due.of(THREE + "hall u plain hates kind=1;hall v plain hates kind<3;hall w plain hates kind=2;");
        Due.due("a", x.gone(0), 0);
        Due.due("b", x.gone(1), 1);
        Due.due("c: by none", x.gone(2), -1);
        x.turn();
        Due.due("b: not by u", x.gone(1), -1);
        x.show();
        Due.due("b: by w", x.gone(1), 2);
        Due.due("no hall", Due.of(THREE).gone(0), -1);
        x = Due.of(THREE + Edges.halls(4, "keen hates 1"));
        for (int shot = 0; shot < 3; shot++) {
            Due.due("each takes one of what comes to it", x.gone(shot), shot);
        }
    }

    // ---- Promise 19

    /** Promise 19, "NoSuchElementException: others". */
    static void p19Others() {
        CountyPrint x = Due.of(Counties.HATS);
        for (int hall : Edges.others(4)) {
            Due.due("saves(" + hall + ")", Due.saves(x, hall), Due.THROWS);
        }
        Due.due("no halls", Due.saves(Due.of(THREE), 0), Due.THROWS);
    }

    /** Promise 19, "NoSuchElementException: ... not one of these HALLS". */
    static void p19NotOneOfThese() {
        CountyPrint x = Due.of(THREE + Edges.halls(3, "plain hates 0"));
        for (int next = 0; next < 3; next++) {
            for (int hall = 0; hall < 3; hall++) {
                Due.due("saves(" + hall + ")", Due.saves(x, hall), hall >= next ? 0 : Due.THROWS);
            }
            x.turn();
            for (int hall = 0; hall < 3; hall++) {
                Due.due("turned, saves(" + hall + ")", Due.saves(x, hall), hall <= next ? 0 : Due.THROWS);
            }
            x.turn();
            x.show();
        }
    }

    /** "how many minutes more they would show, together": none, all, and of the last HALL its own alone. */
    static void p19NoneAndTheMost() {
        CountyPrint x = Due.of(HOURS + "hall u plain hates 1;" + Edges.halls(6, "plain hates 0").substring(21));
        Due.due("u", Due.saves(x, 0), 3600);
        Due.due("the last one", Due.saves(x, 5), 0);
        x = Due.of(HOURS + "hall u plain hates 0;hall v plain hates 1;");
        Due.due("none", Due.saves(x, 0), 0);
        Due.due("its own", Due.saves(x, 1), 600);
        Due.due("all stays", x.count(2), 1023);
    }

    /** "(less than 0: fewer)": by what one takes out another one may be kept from taking out more. */
    static void p19Fewer() {
        CountyPrint x = Due.of("shot a sort 1 long 1;shot b sort 2 long 60;hall u plain hates kind=1;"
            + "hall v plain hates place=1;");
        Due.due("61 + 1 for 60 + 60", Due.saves(x, 0), -58);
        x = Due.of("shot a sort 1 long 1;shot b sort 2 long 1;hall u plain hates kind=1;hall v plain hates place=1;");
        Due.due("2 + 1 for 1 + 1", Due.saves(x, 0), 1);
        x = Due.of("shot a sort 1 long 1;shot b sort 2 long 2;hall u plain hates kind=1;hall v plain hates place=1;");
        Due.due("3 + 1 for 2 + 2", Due.saves(x, 0), 0);
        x = Due.of("shot a sort 1 long 1;shot b sort 2 long 3;hall u plain hates kind=1;hall v plain hates place=1;");
        Due.due("4 + 1 for 3 + 3: -1 is no NONE", Due.saves(x, 0), -1);
    }

    // ---- Promise 20

    /** Promise 20, "NONE: others". */
    static void p20Others() {
        CountyPrint x = Due.of(Counties.HATS);
        for (int shot : Edges.others(5)) {
            Due.due("kin(" + shot + ")", x.kin(shot), -1);
        }
        Due.due("no shots", Due.of("hall h keen hates 1;").kin(0), -1);
    }

    /** "KIN of a SHOT: all that it needs, what these need, and so on": none, and through nine others either way. */
    static void p20NoneAndTheLongestChain() {
        StringBuilder down = new StringBuilder(Edges.shots(10));
        StringBuilder up = new StringBuilder(Edges.shots(10));
        for (char name = 'a'; name < 'j'; name++) {
            down.append("needs ").append(name).append(' ').append((char) (name + 1)).append(';');
            up.append("needs ").append((char) (name + 1)).append(' ').append(name).append(';');
        }
        CountyPrint x = Due.of(down.toString());
        CountyPrint y = Due.of(up.toString());
        for (int shot = 0; shot < 10; shot++) {
            Due.due("down " + shot, x.kin(shot), 1023 & ~((2 << shot) - 1));
            Due.due("up " + shot, y.kin(shot), (1 << shot) - 1);
        }
        x = Due.of(THREE + "needs c a;needs a b;");
        Due.due("by the first one", x.kin(2), 3);
    }

    /** KIN in a ring of needs has an end, and the SHOT is among what the others need. */
    static void p20InARing() {
        StringBuilder ring = new StringBuilder(Edges.shots(10));
        for (int i = 0; i < 10; i++) {
            ring.append("needs ").append((char) ('a' + i)).append(' ').append((char) ('a' + i * 3 % 10)).append(';');
        }
        String text = ring.toString().replace("needs a a;", "").replace("needs f f;", "");
        CountyPrint x = Due.of(text);
        // b d j h and b again; c g i e and c again; a and f need nothing.
        Due.due("b", x.kin(1), 2 + 8 + 512 + 128);
        Due.due("h", x.kin(7), 2 + 8 + 512 + 128);
        Due.due("e", x.kin(4), 4 + 64 + 256 + 16);
        Due.due("a", x.kin(0), 0);
    }

    // ---- Promise 21

    /** Promise 21, "HOARD (sort 0 to 9); NONE: others". */
    static void p21Others() {
        CountyPrint x = Due.of("shot a sort 0 long 1;shot b sort 9 long 1;hall u plain hates 1;");
        x.show();
        Due.due("hoard(0)", x.hoard(0), 0);
        Due.due("hoard(9)", x.hoard(9), 0);
        for (int sort : Edges.others(10)) {
            Due.due("hoard(" + sort + ")", x.hoard(sort), -1);
        }
    }

    /** Promise 21, "NONE: ... none do": nothing lies in DRAWERS, nothing of that sort does; "if some do": one minute. */
    static void p21NoneDo() {
        CountyPrint x = Due.of(THREE + "hall u keen hates kind=1;hall v plain hates 0;");
        Due.due("nothing lies there", x.hoard(1), -1);
        x.show();
        Due.due("one minute", x.hoard(1), 0);
        Due.due("of another sort", x.hoard(2), -1);
        x.give(0, 0);
        Due.due("given back", x.hoard(1), -1);
        Due.due("no hall", Due.of(THREE).hoard(1), -1);
    }

    /** "the most minutes ... of equal ones the first": not the most SHOTS; one minute more is enough. */
    static void p21OfEqualOnesTheFirst() {
        CountyPrint x = Due.of("shot a sort 5 long 3;shot b sort 5 long 1;shot c sort 5 long 2;shot d sort 5 long 1;"
            + "shot e sort 4 long 60;hall u plain hates 0;hall v plain hates 1;hall w plain hates 0;");
        x.show();
        x.show();
        x.trade(1, 2, 0);
        x.trade(1, 0, 3);
        Due.due("1, 3, 3", x.hoard(5), 1);
        x.trade(1, 0, 1);
        Due.due("2, 2, 3", x.hoard(5), 2);
        x.trade(1, 0, 2);
        Due.due("4, 0, 3", x.hoard(5), 0);
        x.trade(0, 1, 3);
        Due.due("3, 1, 3", x.hoard(5), 0);
        x.turn();
        Due.due("by numbers, though the order is turned", x.hoard(5), 0);
    }

    // ---- Promise 22

    /** "LONGEST: the most SHOTS": none of an empty PRINT, one of one, ten of ten sorts. */
    static void p22NoneOneAndTen() {
        CountyPrint x = Due.of(ALL);
        Due.due("all of one sort", x.longest(), 1);
        x.show();
        Due.due("an empty print", x.longest(), 0);
        x.give(0, 9);
        Due.due("one alone", x.longest(), 1);
        StringBuilder ten = new StringBuilder();
        for (int i = 0; i < 10; i++) {
            ten.append("shot ").append((char) ('a' + i)).append(" sort ").append(9 - i).append(" long 1;");
        }
        Due.due("ten sorts", Due.of(ten.toString()).longest(), 10);
        Due.due("no shots", Due.of("").longest(), 0);
    }

    private static int longest(String sorts) {
        StringBuilder text = new StringBuilder();
        for (int i = 0; i < sorts.length(); i++) {
            text.append("shot ").append((char) ('a' + i)).append(" sort ").append(sorts.charAt(i)).append(" long 1;");
        }
        return Due.of(text.toString()).longest();
    }

    /** "one behind another in the PRINT, no two of which are of one sort": at the beginning, the end, in between. */
    static void p22OneBehindAnother() {
        Due.due("at the beginning", longest("1231111"), 3);
        Due.due("at the end", longest("1111321"), 3);
        Due.due("in between", longest("1112341"), 4);
        Due.due("behind one that is alike to one further on", longest("1213"), 3);
        Due.due("not the first and the last", longest("1221"), 2);
        Due.due("two of each", longest("1122334455"), 2);
        Due.due("by turns", longest("1212121212"), 2);
        Due.due("0 and 9 are sorts", longest("09"), 2);
    }

    /** "in the PRINT": what was taken out parts nothing, and is not counted. */
    static void p22WhatWasTakenOut() {
        CountyPrint x = Due.of("shot a sort 1 long 1;shot b sort 2 long 9;shot c sort 2 long 1;shot d sort 3 long 1;"
            + "hall u plain hates minutes=9;");
        Due.due("c d", x.longest(), 2);
        x.show();
        Due.due("a c d", x.longest(), 3);
    }

    // ---- Promise 23

    /** Promise 23, "-2: others, no i-th one": i from 0 to the last of these HALLS, NONE, and no other. */
    static void p23Others() {
        CountyPrint x = Due.of(Counties.HATS);
        for (int what : Edges.others(4)) {
            Due.due("order(" + what + ")", x.order(what), what == -1 ? 38 : -2);
        }
        x.show();
        Due.due("three are left", x.order(2) >= 0, true);
        Due.due("no fourth one", x.order(3), -2);
        x.turn();
        Due.due("two are left", x.order(1) >= 0, true);
        Due.due("no third one", x.order(2), -2);
    }

    /** ORDER without a HALL: no minutes and no row; with one HALL, and when the last one is next. */
    static void p23NoHallAndOne() {
        CountyPrint x = Due.of(THREE);
        Due.due("no hall", x.order(-1), 0);
        Due.due("no hall", x.order(0), -2);
        x = Due.of(THREE + "hall u plain hates kind=3;");
        Due.due("one", x.order(-1), 3);
        Due.due("one", x.order(0), 0);
        Due.due("one", x.order(1), -2);
        x = Due.of(THREE + "hall u plain hates kind=3;hall v plain hates kind=2;");
        x.show();
        Due.due("the last one", x.order(-1), 1);
        Due.due("the last one", x.order(0), 1);
        Due.due("the last one", x.order(1), -2);
        Due.due("nothing is shown", Due.of(THREE + "hall u plain hates 1;").order(-1), 0);
    }

    private static int row(CountyPrint x, int halls) {
        int row = 0;
        for (int i = 0; i < halls; i++) {
            row = row * 10 + x.order(i);
        }
        return row;
    }

    /** "of equal ones the first row (HALLS by numbers)": also when the order is turned. */
    static void p23OfEqualOnesTheFirstRow() {
        CountyPrint x = Due.of(THREE + Edges.halls(6, "plain hates 0"));
        Due.due("all alike", row(x, 6), 12345);
        Due.due("minutes", x.order(-1), 42);
        x.turn();
        for (int i = 0; i < 2; i++) {
            x.show();
        }
        Due.due("turned: e, then down to u", x.count(4), 4);
        Due.due("five of them, by numbers", row(x, 5), 1234);
        x = Due.of(THREE + Edges.halls(4, "plain hates 1"));
        Due.due("nothing is shown by any", row(x, 4), 123);
        Due.due("nothing is shown by any", x.order(-1), 0);
    }

    /** "ORDER of these HALLS by which most minutes are SHOWN": with six of them the best is the last row of all. */
    static void p23TheLastRowOfAll() {
        StringBuilder text = new StringBuilder(Edges.shots(6));
        for (int i = 0; i < 6; i++) {
            text.append("hall ").append((char) ('u' + i)).append(" plain hates place<").append(6 - i).append(';');
        }
        CountyPrint x = Due.of(text.toString());
        Due.due("minutes", x.order(-1), 5 + 3);
        Due.due("the fewest first", row(x, 6), 540123);
        StringBuilder more = new StringBuilder();
        for (int i = 0; i < 6; i++) {
            more.append("shot ").append((char) ('a' + i)).append(" sort ").append(i).append(" long ").append(1 << 5 - i)
                .append(";hall ").append((char) ('u' + i)).append(" plain hates kind=").append(i).append(';');
        }
        x = Due.of(more.toString());
        Due.due("the shortest shot goes first", row(x, 6), 543210);
        Due.due("minutes", x.order(-1), 62 + 60 + 56 + 48 + 32);
        Due.due("all stays", x.count(2), 63);
    }

    // ---- Promise 24

    /** Promise 24, "NONE: by none", and no HALL at all is enough when there are no SHOTS. */
    static void p24NoneAndNoHall() {
        Due.due("taken out by all", Due.of(THREE + Edges.halls(6, "plain hates kind=2")).ride(), -1);
        Due.due("no hall", Due.of(THREE).ride(), -1);
        Due.due("no shots", Due.of(Edges.halls(6, "plain hates 1")).ride(), 0);
        Due.due("nothing", Due.of("").ride(), 0);
    }

    /** "the fewest HALLS": one that shows all; all six, when each shows what no other one does. */
    static void p24OneAndAllSix() {
        Due.due("the sixth alone", Due.of(THREE + Edges.halls(5, "plain hates 1") + "hall z plain hates 0;").ride(), 32);
        StringBuilder text = new StringBuilder(Edges.shots(6));
        for (int i = 0; i < 6; i++) {
            text.append("hall ").append((char) ('u' + i)).append(" plain hates not(place=").append(i).append(");");
        }
        Due.due("all six", Due.of(text.toString()).ride(), 63);
        Due.due("a seventh shot is seen by none", Due.of(text.toString().replace(Edges.shots(6), Edges.shots(7))).ride(), -1);
    }

    /** "of equal ones the least set (bits)"; fewer HALLS of greater numbers are ahead of more of lesser ones. */
    static void p24OfEqualOnesTheLeastSet() {
        Due.due("each shows all", Due.of(THREE + Edges.halls(6, "plain hates 0")).ride(), 1);
        String two = "hall u plain hates kind=1;hall v plain hates kind=2;hall w plain hates kind=3;";
        Due.due("any two", Due.of(THREE + two).ride(), 3);
        Due.due("one of a greater number", Due.of(THREE + two + "hall x plain hates 0;").ride(), 8);
    }

    /** "(... if each had the PRINT as it is, and what is in their DRAWERS)": what lies in one is seen there alone. */
    static void p24WhatIsInDrawers() {
        CountyPrint x = Due.of(THREE + "hall u plain hates kind=1;hall v plain hates 0;hall w plain hates kind=3;");
        Due.due("v shows all", x.ride(), 2);
        x.show();
        Due.due("a lies at u's, b and c are shown there", x.ride(), 1);
        x.trade(0, 2, 0);
        Due.due("a at w's, c at u's", x.ride(), 5);
        x.trade(2, 1, 0);
        Due.due("all at v's", x.ride(), 2);
        x.turn();
        x.show();
        Due.due("by all halls, not these alone", x.ride(), 2);
    }

    // ---- Promise 25
    // Of two rows that make sense both together do, too, and are longer: no two are equally the longest.

    /** Promise 25, "NONE: others": each what that is not 0 or 1. */
    static void p25Others() {
        CountyPrint x = Edges.busy();
        for (int what : Edges.others(2)) {
            Due.due("other(" + what + ")", x.other(what), -1);
        }
        Due.due("new", new CountyPrint().other(2), -1);
    }

    /** "of SHOTS that lie in DRAWERS": none do, and all ten do. */
    static void p25NoneAndAll() {
        CountyPrint x = Due.of(HOURS + "hall u plain hates 1;");
        Due.due("none lie there", x.other(0) + x.other(1), 0);
        x.show();
        Due.due("minutes", x.other(0), 600);
        Due.due("which", x.other(1), 1023);
    }

    /** "that makes SENSE": what is needed lies in no DRAWER, or behind; then nothing is left. */
    static void p25NothingMakesSense() {
        CountyPrint x = Due.of(THREE + "needs b a;needs c b;hall u plain hates 1<kind;");
        x.show();
        Due.due("a is in the print", x.other(0), 0);
        Due.due("a is in the print", x.other(1), 0);
        x = Due.of(THREE + "needs a b;needs b c;hall u plain hates 1;");
        x.show();
        Due.due("c alone", x.other(0), 4);
        Due.due("c alone", x.other(1), 4);
        x = Due.of(THREE + "needs a b;needs b a;hall u plain hates kind<3;");
        x.show();
        Due.due("a ring", x.other(1), 0);
    }

    /** "SHOTS that lie in DRAWERS, by numbers": of several HALLS together, whatever was taken out first. */
    static void p25OfSeveralDrawers() {
        CountyPrint x = Due.of(THREE + "needs c a;needs b a;hall u plain hates kind=3;hall v plain hates kind=1;");
        x.show();
        Due.due("c alone makes none", x.other(1), 0);
        x.show();
        Due.due("a and c", x.other(0), 5);
        Due.due("a and c", x.other(1), 5);
    }

    // ---- Promise 26
    // Of two sets that mend it what they share does, too, and is less: no two are equally the fewest.

    /** Promise 26, "NONE: by none": what is needed is in no DRAWER, or stands behind; 0 when nothing is to be mended. */
    static void p26NoneAndNothing() {
        Due.due("it makes sense", Due.of(THREE + "needs b a;").mends(), 0);
        Due.due("b is behind", Due.of(THREE + "needs a b;").mends(), -1);
        CountyPrint x = Due.of(THREE + "needs a b;hall u plain hates 1<kind;");
        x.show();
        Due.due("b would be behind", x.mends(), -1);
        x = Due.of(THREE + "needs a b;hall u plain hates 1;");
        x.show();
        Due.due("an empty print makes sense", x.mends(), 0);
        Due.due("no shots", Due.of("").mends(), 0);
    }

    /** "the fewest SHOTS of DRAWERS to be given back": one of ten, and nine of ten. */
    static void p26OneAndNine() {
        StringBuilder chain = new StringBuilder(Edges.shots(9) + "shot j sort 2 long 1;");
        for (char name = 'b'; name <= 'j'; name++) {
            chain.append("needs ").append(name).append(' ').append((char) (name - 1)).append(';');
        }
        CountyPrint x = Due.of(chain + "hall u plain hates kind=1;");
        x.show();
        Due.due("nine", x.mends(), 511);
        Due.due("all stays", x.count(2), 512);
        for (int shot = 8; shot > 0; shot--) {
            x.give(0, shot);
            Due.due("what is left", x.mends(), (1 << shot) - 1);
        }
        x.give(0, 0);
        Due.due("nothing", x.mends(), 0);
    }

    /** What is given back needs the rest of what it needs, which may lie in no DRAWER. */
    static void p26WhatIsGivenBackMakesNone() {
        CountyPrint x = Due.of(THREE + "needs c b;needs b a;hall u plain hates kind<3;hall v plain hates 0;");
        x.show();
        Due.due("a and b", x.mends(), 3);
        x.give(0, 0);
        Due.due("b", x.mends(), 2);
        x = Due.of(THREE + "needs b a;needs b c;needs c b;hall u plain hates kind<3;");
        x.show();
        Due.due("b needs c ahead", x.mends(), -1);
    }

    // ---- Promise 27

    /** Promise 27, "NONE: others". */
    static void p27Others() {
        CountyPrint x = Due.of(ALL);
        x.show();
        for (int shot = 0; shot < 10; shot++) {
            Due.due("where(" + shot + ")", x.where(shot), 0);
        }
        for (int shot : Edges.others(10)) {
            Due.due("where(" + shot + ")", x.where(shot), -1);
        }
        CountyPrint y = Due.of(Counties.HATS);
        y.show();
        for (int shot : Edges.others(5)) {
            Due.due("where(" + shot + ")", y.where(shot), -1);
        }
    }

    /** Promise 27, "NONE: ... in no DRAWER": in the PRINT, given back; and in the last HALL's. */
    static void p27InNoDrawer() {
        CountyPrint x = Due.of(THREE + Edges.halls(6, "plain hates kind=2"));
        Due.due("in the print", x.where(1), -1);
        x.show();
        Due.due("in the first one's", x.where(1), 0);
        x.trade(0, 5, 1);
        Due.due("in the last one's", x.where(1), 5);
        x.give(5, 1);
        Due.due("given back", x.where(1), -1);
    }

    // ---- Promise 28

    /** Promise 28, "NONE: others, the same". */
    static void p28OthersAndTheSame() {
        CountyPrint x = Due.of(Counties.HATS);
        for (int hall : Edges.others(4)) {
            Due.due("taste(0, " + hall + ")", x.taste(0, hall), -1);
            Due.due("taste(" + hall + ", 0)", x.taste(hall, 0), -1);
            Due.due("taste(" + hall + ", " + hall + ")", x.taste(hall, hall), -1);
        }
        for (int hall = 0; hall < 4; hall++) {
            Due.due("the same", x.taste(hall, hall), -1);
        }
    }

    /** "how many SHOTS ... both hate, or neither does": none, all, and none of no SHOTS. */
    static void p28NoneAndAll() {
        CountyPrint x = Due.of(ALL + "hall w keen hates 7;hall x keen hates 0;");
        Due.due("none", x.taste(0, 1), 0);
        Due.due("both hate all", x.taste(0, 2), 10);
        Due.due("neither hates any", x.taste(1, 3), 10);
        x.show();
        Due.due("when the print is empty, too", x.taste(0, 2), 10);
        Due.due("no shots", Due.of(Edges.halls(2, "keen hates 1")).taste(0, 1), 0);
    }

    /** "(each alone in a row)": at the place 0 and with nothing ahead; what is hated, not what is taken out. */
    static void p28EachAloneInARow() {
        CountyPrint x = Due.of(THREE + "hall u plain hates 1;hall v plain hates place=0 and ahead=10;"
            + "hall w miner hates 1;hall x plain hates place or ahead<10;");
        Due.due("each is the first", x.taste(0, 1), 3);
        Due.due("a miner's hates the last, too", x.taste(0, 2), 3);
        Due.due("none is behind another", x.taste(0, 3), 0);
    }

    // ---- Promise 29

    /** Promise 29, "NONE: no HALL". */
    static void p29NoHall() {
        Due.due("shots alone", Due.of(THREE).mild(), -1);
        Due.due("nothing", Due.of("").mild(), -1);
        Due.due("a hall that takes all", Due.of(THREE + "hall u plain hates 1;").mild(), 0);
        Due.due("no shots", Due.of(Edges.halls(3, "plain hates 1")).mild(), 0);
    }

    /** "the fewest minutes ... of equal ones the first": one minute less is enough; SHOTS are not counted. */
    static void p29OfEqualOnesTheFirst() {
        Due.due("all alike", Due.of(THREE + Edges.halls(6, "plain hates 1")).mild(), 0);
        Due.due("4, 3, 3", Due.of(THREE + "hall u plain hates kind=3;hall v plain hates kind<3;"
            + "hall w plain hates kind<3;").mild(), 1);
        CountyPrint x = Due.of(THREE + Edges.halls(5, "plain hates 1<kind") + "hall z plain hates kind<3;");
        Due.due("the sixth", x.mild(), 5);
        x.turn();
        Due.due("turned", x.mild(), 5);
    }

    /** "would take ... out of the whole FILM": by its kind, and whatever lies in DRAWERS. */
    static void p29OutOfTheWholeFilm() {
        CountyPrint x = Due.of(THREE + "hall u plain hates 1<kind;hall v miner hates 1<kind;hall w keen hates 1;");
        Due.due("6, 2, 1", x.mild(), 2);
        x.show();
        Due.due("whatever lies in drawers", x.mild(), 2);
        Due.due("a chapel takes what is behind", Due.of(THREE + "hall u chapel hates kind=1;hall v plain hates kind=2;")
            .mild(), 1);
        Due.due("a miner's leaves the last", Due.of(THREE + "hall u plain hates kind=1;hall v miner hates kind=3;")
            .mild(), 1);
    }

    // ---- Promise 30

    /** Promise 30, "false: others": each number that is no SHOT's; it is not counted. */
    static void p30Others() {
        CountyPrint x = Due.of(Counties.HATS);
        for (int shot : Edges.others(5)) {
            Due.due("see(" + shot + ")", x.see(shot, true), false);
            Due.due("see(" + shot + ")", x.see(shot, false), false);
        }
        Due.due("seen", x.count(8), 0);
        Due.due("the last shot", x.see(4, true), true);
        Due.due("the first shot", x.see(0, false), true);
        Due.due("seen", x.count(8), 2);
        Due.due("no shots", Due.of("hall h keen hates 1;").see(0, true), false);
    }

    /** Promise 30, "false: ... 8 there are", "8 at most": the eighth is one, the ninth is none and changes nothing. */
    static void p30EightAtMost() {
        CountyPrint x = Due.of(THREE + "hall u plain hates kind=1;hall v plain hates 0;");
        for (int i = 1; i <= 7; i++) {
            Due.due("see", x.see(2, true), true);
            Due.due("seen", x.count(8), i);
        }
        Due.due("halls", x.halls(), 3);
        Due.due("the eighth", x.see(0, false), true);
        Due.due("seen", x.count(8), 8);
        Due.due("the eighth counts", x.halls(), 1);
        Due.due("the ninth", x.see(0, true), false);
        Due.due("seen", x.count(8), 8);
        Due.due("the ninth does not count", x.halls(), 1);
    }

    /** A SHOT may be SEEN though it is not in the PRINT, and twice, and both ways. */
    static void p30WhatMayBeSeen() {
        CountyPrint x = Due.of(THREE + Edges.halls(2, "keen hates 1"));
        x.show();
        Due.due("not in the print", x.see(0, false), true);
        Due.due("none shows it", x.halls(), 3);
        Due.due("twice", x.see(0, false), true);
        Due.due("the other way", x.see(0, true), true);
        Due.due("by none", x.halls(), 0);
    }

    // ---- Promise 31

    /** "HALLS by which all SEEN is so (bits)": all six when nothing is SEEN, none without a HALL. */
    static void p31AllAndNone() {
        Due.due("all six", Due.of(THREE + Edges.halls(6, "keen hates 1")).halls(), 63);
        Due.due("no shots", Due.of(Edges.halls(6, "keen hates 1")).halls(), 63);
        Due.due("no hall", Due.of(THREE).halls(), 0);
        CountyPrint x = Due.of(THREE + Edges.halls(6, "keen hates 1"));
        x.see(0, true);
        Due.due("no hall is so", x.halls(), 0);
    }

    /** "all SEEN is so": each of it, and of all HALLS, those ahead of the next one, too. */
    static void p31AllOfIt() {
        CountyPrint x = Due.of(THREE + "hall u plain hates kind=1;hall v plain hates kind=2;hall w plain hates kind=3;");
        x.see(0, true);
        Due.due("v and w", x.halls(), 6);
        x.see(1, true);
        Due.due("w", x.halls(), 4);
        x.see(2, true);
        Due.due("none", x.halls(), 0);
        x = Due.of(THREE + "hall u plain hates kind=1;hall v plain hates kind=2;hall w plain hates 0;");
        x.show();
        x.show();
        x.see(2, true);
        Due.due("all three", x.halls(), 7);
    }

    /** "(with the PRINT as it is now)": what a hall would show of the PRINT when it is asked. */
    static void p31WithThePrintAsItIs() {
        CountyPrint x = Due.of(THREE + "hall u plain hates kind=1;hall v keen hates 1;");
        x.see(1, true);
        Due.due("of the whole film", x.halls(), 3);
        x.show();
        Due.due("v takes b now", x.halls(), 1);
        x.give(0, 0);
        Due.due("v takes a again", x.halls(), 3);
    }

    // ---- Promise 32

    /** Promise 32, "NONE: none parts them": no HALL, one alone, and HALLS that show the same. */
    static void p32NonePartsThem() {
        Due.due("no hall", Due.of(THREE).ask(), -1);
        Due.due("one alone", Due.of(THREE + "hall u plain hates kind=1;").ask(), -1);
        Due.due("all alike", Due.of(THREE + Edges.halls(6, "plain hates kind=1")).ask(), -1);
        Due.due("no shots", Due.of(Edges.halls(6, "plain hates 1")).ask(), -1);
        CountyPrint x = Due.of(THREE + "hall u plain hates kind=1;hall v plain hates kind=2;");
        Due.due("two are parted", x.ask(), 0);
        x.see(0, true);
        Due.due("v alone is left", x.ask(), -1);
        x.see(1, true);
        Due.due("none is left", x.ask(), -1);
    }

    /** "the greater number of them that show it, or do not, is the least, if that is less than all". */
    static void p32TheLeastOfTheGreater() {
        CountyPrint x = Due.of(THREE + "hall u plain hates kind=1;hall v plain hates kind=3;hall w plain hates kind=3;"
            + "hall x plain hates 0;");
        Due.due("c: two and two", x.ask(), 2);
        x = Due.of(THREE + "hall u plain hates kind=3;" + Edges.halls(6, "plain hates 0").substring(21));
        Due.due("c: one of six does not show it", x.ask(), 2);
        x = Due.of(THREE + "hall u plain hates kind=1;" + Edges.halls(6, "plain hates kind=2").substring(26));
        Due.due("a: five show it, b: one does", x.ask(), 0);
    }

    /** "of equal ones the first": of the SHOTS; the greater part may be those that show it or those that do not. */
    static void p32OfEqualOnesTheFirst() {
        CountyPrint x = Due.of(THREE + "hall u plain hates kind=1;hall v plain hates kind=2;hall w plain hates kind=3;");
        Due.due("a, b and c alike", x.ask(), 0);
        x = Due.of(THREE + "hall u plain hates kind=2;hall v plain hates kind=2;hall w plain hates kind=3;");
        Due.due("b: one, c: two", x.ask(), 1);
    }

    /** "of them": of the HALLS by which all SEEN is so; with the PRINT as it is. */
    static void p32OfThoseThatAreLeft() {
        CountyPrint x = Due.of(THREE + "hall u plain hates kind=1;hall v plain hates kind=1 or kind=3;"
            + "hall w plain hates kind=2;hall x plain hates kind=2;");
        Due.due("a: two and two", x.ask(), 0);
        x.see(0, false);
        Due.due("u and v: by c", x.ask(), 2);
        x.show();
        Due.due("all four do not show a now: by b", x.ask(), 1);
    }

    // ---- Promise 33

    /** Promise 33, "so much (0 to 9)", "NoSuchElementException: others": of each of the three. */
    static void p33From0To9() {
        CountyPrint x = new CountyPrint();
        for (int bid = 0; bid <= 9; bid++) {
            Due.due("high " + bid, Due.rests(x, bid, 0, 0, -1) > 0, true);
            Due.due("low " + bid, Due.rests(x, 0, bid, 0, -1) > 0, true);
            Due.due("alone " + bid, Due.rests(x, 0, 0, bid, -1) > 0, true);
        }
        for (int bid : Edges.others(10)) {
            Due.due("high " + bid, Due.rests(x, bid, 0, 0, -1), Due.THROWS);
            Due.due("low " + bid, Due.rests(x, 0, bid, 0, -1), Due.THROWS);
            Due.due("alone " + bid, Due.rests(x, 0, 0, bid, -1), Due.THROWS);
        }
    }

    /** Promise 33, "what NONE: how many; i: the i-th ... NoSuchElementException: others, none such". */
    static void p33NoneSuch() {
        CountyPrint x = new CountyPrint();
        int[][] bids = {{3, 4, 5}, {3, 5, 4}, {0, 4, 5}, {0, 0, 0}};
        int[] many = {1, 2, 3, 4};
        for (int n = 0; n < 4; n++) {
            int[] bid = bids[n];
            Due.due("how many", Due.rests(x, bid[0], bid[1], bid[2], -1), many[n]);
            for (int i = 0; i < many[n]; i++) {
                Due.due("the " + i + "th", Due.rests(x, bid[0], bid[1], bid[2], i) >= 0, true);
            }
            for (int i : Edges.others(many[n])) {
                if (i != -1) {
                    Due.due("no " + i + "th", Due.rests(x, bid[0], bid[1], bid[2], i), Due.THROWS);
                }
            }
        }
    }

    /** "by which neither would get more by the other": as much is not more; "the least first". */
    static void p33AsMuchIsNotMore() {
        CountyPrint x = new CountyPrint();
        // Both low rest if low is not less than alone; both high always, as the other choice gets nothing;
        // one high alone if alone is not less than low, and high is nothing.
        Due.due("low as much as alone", Due.rests(x, 1, 4, 4, -1), 2);
        Due.due("low as much as alone", Due.rests(x, 1, 4, 4, 0), 0);
        Due.due("low less by one", Due.rests(x, 1, 4, 5, -1), 1);
        Due.due("low less by one", Due.rests(x, 1, 4, 5, 0), 3);
        Due.due("high is nothing", Due.rests(x, 0, 4, 5, -1), 3);
        for (int i = 0; i < 3; i++) {
            Due.due("high is nothing", Due.rests(x, 0, 4, 5, i), i + 1);
        }
        Due.due("high is nothing, alone less than low", Due.rests(x, 0, 5, 4, -1), 2);
        Due.due("high is nothing, alone less than low", Due.rests(x, 0, 5, 4, 1), 3);
        for (int i = 0; i < 4; i++) {
            Due.due("high is nothing, alone as much as low", Due.rests(x, 0, 4, 4, i), i);
        }
    }

    // ---- Promise 34

    /** Promise 34, "NONE: others". */
    static void p34Others() {
        CountyPrint x = Due.of(Counties.HATS);
        for (int time = 0; time < 2; time++) {
            for (int hall : Edges.others(4)) {
                Due.due("share(" + hall + ")", x.share(hall), -1);
            }
            x.show();
        }
        Due.due("no halls", Due.of(THREE).share(0), -1);
    }

    /** "(0: none do)": nothing lies in DRAWERS; nothing in its own; all in its own. */
    static void p34NoneDo() {
        CountyPrint x = Due.of(HOURS + "hall u plain hates 1;hall v plain hates 0;");
        Due.due("nothing lies there", x.share(0) + x.share(1), 0);
        x.show();
        Due.due("all", x.share(0), 1000);
        Due.due("none of its own", x.share(1), 0);
        Due.due("no shots", Due.of("hall u plain hates 1;").share(0), 0);
    }

    /** "in thousandths, cut": not rounded; of minutes, not of SHOTS. */
    static void p34Cut() {
        CountyPrint x = Due.of("shot a sort 1 long 1;shot b sort 1 long 2;hall u plain hates 1;hall v plain hates 0;");
        x.show();
        x.trade(0, 1, 1);
        Due.due("a third", x.share(0), 333);
        Due.due("two thirds", x.share(1), 666);
        x = Due.of("shot a sort 1 long 1;" + HOURS.substring(22) + "hall u plain hates 1;hall v plain hates 0;");
        x.show();
        x.trade(0, 1, 0);
        Due.due("540 of 541", x.share(0), 998);
        Due.due("1 of 541", x.share(1), 1);
    }

    // ---- Promise 35

    /** Promise 35, "a SEED (0 to 9999)", "so many SHOWS (1 to 99)", "NONE: others": of each of the three. */
    static void p35Others() {
        CountyPrint x = Due.of(Counties.CALM);
        for (int seed : new int[] {0, 1, 9998, 9999}) {
            for (int shows : new int[] {1, 2, 98, 99}) {
                Due.due("tours(" + seed + ", " + shows + ", 0)", x.tours(seed, shows, 0), 8 * shows);
            }
        }
        for (int what : Edges.others(3)) {
            Due.due("what " + what, x.tours(0, 1, what), -1);
        }
        for (int seed : Edges.others(10000)) {
            Due.due("seed " + seed, x.tours(seed, 1, 0), seed > 0 && seed < 10000 ? 8 : -1);
        }
        for (int shows : Edges.others(100)) {
            Due.due("shows " + shows, x.tours(0, shows, 0), shows > 0 && shows < 100 ? 8 * shows : -1);
        }
        Due.due("no shows", x.tours(0, 0, 0), -1);
    }

    /** "each, if there are HALLS": without one nothing is shown; without SHOTS nothing is to be shown. */
    static void p35WithoutHallsOrShots() {
        CountyPrint x = Due.of(THREE + "needs a b;");
        Due.due("minutes", x.tours(5, 99, 0), 0);
        Due.due("how often", x.tours(5, 99, 1), 0);
        Due.due("shots", x.tours(5, 99, 2), 7);
        x = Due.of(Edges.halls(3, "plain hates 1"));
        for (int what = 0; what < 3; what++) {
            Due.due("without shots", x.tours(5, 99, what), 0);
        }
    }

    private static long g;

    private static int draw(int m) {
        g = (g * 1103515245L + 12345L) & 0x7fffffffL;
        return (int) ((g >> 16) % m);
    }

    /** "A DRAW below m": from the least SEED to the greatest, below each number of HALLS. */
    static void p35ADrawBelow() {
        for (int halls = 1; halls <= 6; halls++) {
            StringBuilder text = new StringBuilder(HOURS.substring(0, 22 * halls));
            for (int i = 0; i < halls; i++) {
                text.append("hall ").append((char) ('u' + i)).append(" plain hates place<").append(i).append(';');
            }
            CountyPrint x = Due.of(text.toString());
            for (int seed = 0; seed <= 9999; seed += seed < 20 || seed > 9990 ? 1 : 97) {
                g = seed;
                Due.due("seed " + seed, x.tours(seed, 1, 0), 60 * (halls - draw(halls)));
            }
        }
    }

    /** "if some SHOTS lie in DRAWERS a DRAW below 4": none is made when none lie there; 0 alone gives one back. */
    static void p35TheDrawsOfATour() {
        CountyPrint x = Due.of(HOURS.substring(0, 44) + "hall u plain hates 0;hall v plain hates 1;");
        for (int seed = 0; seed < 400; seed++) {
            likeToured(x, seed, 6, 3);
        }
    }

    /** Two shots of an hour, and two halls: the first takes out nothing, the second one all. */
    private static void likeToured(CountyPrint x, int seed, int shows, int printNow) {
        g = seed;
        int print = printNow;
        int minutes = 0;
        for (int show = 0; show < shows; show++) {
            print = draw(2) == 1 ? 0 : print;
            minutes += 60 * Integer.bitCount(print);
            if (print != 3 && draw(4) == 0) {
                int drawn = 3 & ~print;
                int which = draw(Integer.bitCount(drawn));
                print |= drawn == 3 ? 1 << which : drawn;
            }
        }
        Due.due("minutes of " + seed, x.tours(seed, shows, 0), minutes);
        Due.due("print of " + seed, x.tours(seed, shows, 2), print);
    }

    /** "from now on (all is as ahead then)": with what lies in DRAWERS now; by it nothing changes. */
    static void p35AllIsAsAheadThen() {
        CountyPrint x = Due.of(HOURS.substring(0, 44) + "hall u plain hates 0;hall v plain hates 1;");
        x.show();
        x.show();
        x.give(1, 1);
        x.show();
        String ahead = Edges.told(x);
        for (int seed = 0; seed < 50; seed++) {
            likeToured(x, seed, 1, 2);
            likeToured(x, seed, 3, 2);
        }
        Edges.alike("all stays", Edges.told(x), ahead);
        Due.due("what can be undone", x.count(9), 4);
        Due.due("next", x.count(4), 1);
    }

    /** "how often it made no SENSE": each time, and never; "minutes that were shown": of all shows. */
    static void p35HowOften() {
        CountyPrint x = Due.of(THREE + "needs a b;hall u plain hates 0;hall v keen hates 0;");
        Due.due("each of one", x.tours(3, 1, 1), 1);
        Due.due("each of 99", x.tours(3, 99, 1), 99);
        Due.due("minutes", x.tours(3, 99, 0), 693);
        x = Due.of(THREE + "needs b a;hall u plain hates 0;hall v keen hates 0;");
        Due.due("never", x.tours(3, 99, 1), 0);
        x = Due.of(THREE + "needs a b;hall u plain hates 1;");
        Due.due("an empty print makes sense", x.tours(3, 1, 1), 0);
    }

    /** "(no other one is next by it)", and it draws among all HALLS, whichever is next in whatever order. */
    static void p35WhicheverIsNext() {
        CountyPrint x = Due.of(THREE + "hall u plain hates kind=1;hall v plain hates kind=2;hall w plain hates 0;");
        CountyPrint y = Due.of(THREE + "hall u plain hates kind=1;hall v plain hates kind=2;hall w plain hates 0;");
        y.show();
        y.show();
        y.give(0, 0);
        y.give(1, 1);
        y.turn();
        for (int seed = 0; seed < 50; seed++) {
            Due.due("minutes", y.tours(seed, 5, 0), x.tours(seed, 5, 0));
            Due.due("print", y.tours(seed, 5, 2), x.tours(seed, 5, 2));
        }
        Due.due("next", y.count(4), 2);
    }
}
