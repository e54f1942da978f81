/** The boundary cases of promises 5 to 12, 36 and 37: shots and halls, deeds by hand, marks and counts. */
public final class EdgesByHandTest {
    /** Sorts 0, 3, 3, 5, 9, 0; minutes 1, 2, 30, 4, 60, 6. */
    private static final String SIX = "shot a sort 0 long 1;shot b sort 3 long 2;shot c sort 3 long 30;"
        + "shot d sort 5 long 4;shot e sort 9 long 60;shot f sort 0 long 6;";
    /** Ten shots of a minute, one hall that takes all, one that takes nothing. */
    private static final String ALL = Edges.shots(10) + "hall u plain hates 1;hall v plain hates 0;";

    public static void main(String[] args) {
        Edges.run(EdgesByHandTest.class);
    }

    private static void out(String kind, String law, int bits) {
        CountyPrint x = Due.of(SIX + "hall h " + kind + " hates " + law + ";");
        Due.due(kind + " hates " + law, x.hall(0, 3), bits);
    }

    // ---- Promise 5

    /** Promise 5, "-2: others": each number that is no SHOT's, each what that is not 0 to 3. */
    static void p05Others() {
        CountyPrint x = Due.of(Counties.HATS);
        for (int shot : Edges.others(5)) {
            for (int what = 0; what < 4; what++) {
                Due.due("shot(" + shot + ", " + what + ")", x.shot(shot, what), -2);
            }
        }
        for (int what : Edges.others(4)) {
            Due.due("shot(0, " + what + ")", x.shot(0, what), -2);
            Due.due("shot(4, " + what + ")", x.shot(4, what), -2);
        }
    }

    /** Promise 5: the first and the tenth SHOT are told; without one there is none. */
    static void p05TheFirstAndTheTenth() {
        CountyPrint x = Due.of("shot a sort 0 long 60;" + Edges.shots(10).substring(21).replace("j sort 1", "j sort 9"));
        Due.due("sort", x.shot(0, 0), 0);
        Due.due("long", x.shot(0, 1), 60);
        Due.due("sort", x.shot(9, 0), 9);
        Due.due("long", x.shot(9, 1), 1);
        Due.due("the eleventh", x.shot(10, 0), -2);
        Due.due("no shots", Due.of("hall h keen hates 1;").shot(0, 0), -2);
    }

    /** Promise 5, "what it needs, as bits": nothing, all nine others, ahead of it and behind it. */
    static void p05NeedsNothingAndAll() {
        StringBuilder needs = new StringBuilder(Edges.shots(10));
        for (char name = 'a'; name <= 'j'; name++) {
            needs.append(name == 'e' ? "" : "needs e " + name + ";");
        }
        CountyPrint x = Due.of(needs.toString() + "needs a j;needs j a;");
        Due.due("all others", x.shot(4, 2), 1023 - 16);
        Due.due("nothing", x.shot(5, 2), 0);
        Due.due("the last one", x.shot(0, 2), 512);
        Due.due("the first one", x.shot(9, 2), 1);
    }

    /** Promise 5, "3: 1 it is in the PRINT": 0 when it lies in a DRAWER, 1 when it was given back. */
    static void p05InThePrintOrNot() {
        CountyPrint x = Due.of(ALL);
        Due.due("first", x.shot(0, 3) * 10 + x.shot(9, 3), 11);
        x.show();
        Due.due("taken out", x.shot(0, 3) * 10 + x.shot(9, 3), 0);
        x.give(0, 9);
        Due.due("given back", x.shot(0, 3) * 10 + x.shot(9, 3), 1);
        x.trade(0, 1, 0);
        Due.due("traded", x.shot(0, 3), 0);
    }

    // ---- Promise 6

    /** Promise 6, "NONE: others": each number that is no HALL's, each what that is not 0 to 3. */
    static void p06Others() {
        CountyPrint x = Due.of(Counties.HATS);
        for (int hall : Edges.others(4)) {
            for (int what = 0; what < 4; what++) {
                Due.due("hall(" + hall + ", " + what + ")", x.hall(hall, what), -1);
            }
        }
        for (int what : Edges.others(4)) {
            Due.due("hall(0, " + what + ")", x.hall(0, what), -1);
            Due.due("hall(3, " + what + ")", x.hall(3, what), -1);
        }
        Due.due("no halls", Due.of(Edges.shots(1)).hall(0, 0), -1);
    }

    /** Promise 6, "0 plain, 1 keen, 2 chapel, 3 miner": of the first and of the sixth HALL. */
    static void p06KindsOfTheFirstAndTheSixth() {
        CountyPrint x = Due.of("hall a plain hates 1;hall b miner hates 1;hall c chapel hates 1;hall d keen hates 1;"
            + "hall e plain hates 1;hall f miner hates 1;");
        int[] kinds = {0, 3, 2, 1, 0, 3, -1};
        for (int hall = 0; hall < kinds.length; hall++) {
            Due.due("kind of " + hall, x.hall(hall, 0), kinds[hall]);
        }
    }

    /** Promise 6, "its DRAWER, as bits": empty, with all SHOTS in it, and empty again. */
    static void p06ADrawerEmptyAndFull() {
        CountyPrint x = Due.of(ALL);
        Due.due("empty", x.hall(0, 1), 0);
        x.show();
        Due.due("full", x.hall(0, 1), 1023);
        Due.due("the other one's", x.hall(1, 1), 0);
        for (int shot = 0; shot < 10; shot++) {
            x.give(0, shot);
        }
        Due.due("empty again", x.hall(0, 1), 0);
    }

    /** Promise 6, "its place in the order": from 0 to the last, turned from the last to 0; one HALL alone is at 0. */
    static void p06PlacesInTheOrder() {
        CountyPrint x = Due.of(Edges.halls(6, "keen hates 1"));
        for (int hall = 0; hall < 6; hall++) {
            Due.due("place", x.hall(hall, 2), hall);
        }
        x.turn();
        for (int hall = 0; hall < 6; hall++) {
            Due.due("turned", x.hall(hall, 2), 5 - hall);
        }
        x = Due.of("hall h keen hates 1;");
        Due.due("alone", x.hall(0, 2), 0);
        x.turn();
        Due.due("alone, turned", x.hall(0, 2), 0);
    }

    /** Promise 6, "what it would take out of the PRINT now": nothing of an empty one; asking takes out nothing. */
    static void p06OutOfThePrintNow() {
        CountyPrint x = Due.of(ALL);
        Due.due("all", x.hall(0, 3), 1023);
        Due.due("all is there still", x.count(2), 1023);
        Due.due("nothing", x.hall(1, 3), 0);
        x.show();
        Due.due("of an empty one", x.hall(0, 3), 0);
        x.give(0, 4);
        Due.due("of the one that is there", x.hall(0, 3), 16);
        for (String kind : "plain keen chapel miner".split(" ")) {
            Due.due("without shots", Due.of("hall h " + kind + " hates 1;").hall(0, 3), 0);
        }
    }

    /** "all SHOTS for which its E is not 0 (as the row came)": what is taken out moves nothing up. */
    static void p06AsTheRowCame() {
        out("plain", "place=0 or ahead=10", 1);
        out("plain", "place=0 or place=1", 3);
        out("plain", "kind=3 or ahead=3", 2 + 4 + 8);
        out("plain", "ahead=kind", 4);
        out("chapel", "place=0", 3);
        out("keen", "place<2", 1);
    }

    /** "a keen one the first of these alone": the first of the row, the last of it, and none. */
    static void p06AKeenHallTakesTheFirst() {
        out("keen", "1", 1);
        out("keen", "kind=3", 2);
        out("keen", "place", 2);
        out("keen", "place=5", 32);
        out("keen", "0", 0);
    }

    /** "a chapel also the SHOT behind each of these": behind the last there is none; one behind is not two. */
    static void p06AChapelTakesWhatIsBehind() {
        out("chapel", "place=0", 1 + 2);
        out("chapel", "place=4", 16 + 32);
        out("chapel", "place=5", 32);
        out("chapel", "kind=3", 2 + 4 + 8);
        out("chapel", "kind=0", 1 + 2 + 32);
        out("chapel", "place=0 or place=3", 1 + 2 + 8 + 16);
        out("chapel", "1", 63);
        out("chapel", "0", 0);
    }

    /** "the SHOT behind each of these" is the one behind it in the row that came, not in the FILM. */
    static void p06BehindItInTheRow() {
        CountyPrint x = Due.of(SIX + "hall h plain hates kind=3;hall i chapel hates kind=0 and ahead=10;");
        x.show();
        Due.due("d is behind a now", x.hall(1, 3), 1 + 8);
    }

    /** "a miner's all but the last one of the row that came, if that is one of these". */
    static void p06AMinersLeavesTheLast() {
        out("miner", "1", 31);
        out("miner", "place=5", 0);
        out("miner", "kind=0", 1);
        out("miner", "place=4", 16);
        out("miner", "place=0", 1);
        out("miner", "0", 0);
        CountyPrint x = Due.of("shot a sort 1 long 1;hall h miner hates 1;");
        Due.due("a row of one", x.hall(0, 3), 0);
        x = Due.of(SIX + "hall h plain hates kind=0;hall i miner hates 1;");
        x.show();
        Due.due("the last of the row is e now", x.hall(1, 3), 2 + 4 + 8);
    }

    /** "place (its place, from 0, in the row that came)": from 0 to 9, and less in a shorter row. */
    static void p06PlacesFrom0() {
        for (int place = 0; place < 10; place++) {
            CountyPrint x = Due.of(Edges.shots(10) + "hall u plain hates place=" + place + ";");
            Due.due("place " + place, x.hall(0, 3), 1 << place);
        }
        out("plain", "place=6", 0);
        CountyPrint x = Due.of(SIX + "hall h keen hates 1;hall i plain hates place=4;hall j plain hates place=5;");
        x.show();
        Due.due("f is at 4 now", x.hall(1, 3), 32);
        Due.due("none is at 5 now", x.hall(2, 3), 0);
    }

    /** "ahead (the sort of the SHOT ahead of it there; 10: it is the first)". */
    static void p06TenAheadOfTheFirst() {
        out("plain", "ahead=10", 1);
        out("plain", "9<ahead", 1);
        out("plain", "ahead=9", 32);
        out("plain", "ahead=0", 2);
        CountyPrint x = Due.of(SIX + "hall h keen hates 1;hall i plain hates ahead=10;hall j plain hates ahead=0;");
        x.show();
        Due.due("b is the first now", x.hall(1, 3), 2);
        Due.due("a is ahead of none", x.hall(2, 3), 0);
    }

    /** "kind (the SHOT's sort), minutes (how long it is)": the least and the greatest. */
    static void p06SortsAndMinutes() {
        out("plain", "kind=0", 1 + 32);
        out("plain", "kind=9", 16);
        out("plain", "minutes=1", 1);
        out("plain", "minutes=60", 16);
        out("plain", "60<minutes or minutes<1", 0);
    }

    /** "what is not 0 is so": what is less than 0, too, as a law and within one. */
    static void p06WhatIsNot0IsSo() {
        out("plain", "0", 0);
        out("plain", "1", 63);
        out("plain", "9999", 63);
        out("plain", "0-1", 63);
        out("plain", "1-1", 0);
        out("plain", "(0-1) and 2", 63);
        out("plain", "0 or 0-5", 63);
        out("plain", "not (0-1)", 0);
    }

    /** "Of not, and, or, < and = comes 1 or 0". */
    static void p06OneOr0() {
        out("plain", "(not 0)=1 and (not 7)=0", 63);
        out("plain", "(2 and 4)=1 and (2 and 0)=0 and (0 and 2)=0", 63);
        out("plain", "(2 or 4)=1 and (0 or 4)=1 and (4 or 0)=1 and (0 or 0)=0", 63);
        out("plain", "(3<4)=1 and (4<4)=0 and (5<4)=0", 63);
        out("plain", "(4=4)=1 and (4=5)=0", 63);
    }

    /** "E: TEST { and TEST or or TEST }, from the left"; so are SUMS, and a PRODUCT is ahead of these. */
    static void p06FromTheLeft() {
        out("plain", "1 or 1 and 0", 0);
        out("plain", "0 and 0 or 1", 63);
        out("plain", "1 or 0 and 0 or 0", 0);
        out("plain", "5-2-1=2", 63);
        out("plain", "1-2*3+7=2", 63);
        out("plain", "not kind=1", 1 + 32);
        out("plain", "not kind*9", 1 + 32);
    }

    /** "ints wrap": beyond the greatest int comes the least, and the other way round. */
    static void p06IntsWrap() {
        String greatest = "(4096*4096*64-1+4096*4096*64)";
        out("plain", greatest + "<0", 0);
        out("plain", greatest + "+1<0", 63);
        out("plain", greatest + "+1=0-" + greatest + "-1", 63);
        out("plain", "0-" + greatest + "-2=" + greatest, 63);
        out("plain", "4096*4096*256", 0);
        out("plain", "4096*4096*256+1=1", 63);
        out("plain", "9999*9999*9999=0-(1027*1000*1000+349*1000+969)", 63);
    }

    /** "no PART lies within 5": the fullest law that may be told is worked out whole. */
    static void p06TheFullestLaw() {
        String law = "1";
        for (int i = 0; i < 5; i++) {
            law = "0 or 0<0+1*" + (i == 0 ? law : "(" + law + ")");
        }
        out("plain", law, 63);
        out("plain", law.replace("1*1", "1*0"), 0);
        out("plain", "not not not not kind", 2 + 4 + 8 + 16);
        out("plain", "not(not(kind))", 2 + 4 + 8 + 16);
    }

    /** Each of six HALLS has its own law, the first and the last, too. */
    static void p06LawsOfSixHalls() {
        StringBuilder text = new StringBuilder(SIX);
        for (int i = 0; i < 6; i++) {
            text.append("hall ").append((char) ('u' + i)).append(" plain hates place=").append(5 - i).append(';');
        }
        CountyPrint x = Due.of(text.toString());
        for (int hall = 0; hall < 6; hall++) {
            Due.due("hall " + hall, x.hall(hall, 3), 32 >> hall);
        }
    }

    // ---- Promise 7

    /** Promise 7, "NONE: no HALL": nothing changes by it, and it can't be undone. */
    static void p07NoHall() {
        CountyPrint x = Due.of(Edges.shots(3));
        String ahead = Edges.told(x);
        Due.due("show", x.show(), -1);
        Due.due("can be undone", x.count(9), 0);
        Due.due("undo", x.undo(), false);
        Edges.alike("all stays", Edges.told(x), ahead);
    }

    /** "behind the last one the first one is, and one more tour is over": not sooner, and each time. */
    static void p07BehindTheLastTheFirst() {
        CountyPrint x = Due.of(Edges.halls(6, "keen hates 1"));
        for (int show = 1; show <= 18; show++) {
            x.show();
            Due.due("next behind " + show, x.count(4), show % 6);
            Due.due("tours behind " + show, x.count(5), show / 6);
        }
    }

    /** The same in an order that was turned: behind the first HALL told the last one told is. */
    static void p07BehindTheLastOfATurnedOrder() {
        CountyPrint x = Due.of(Edges.halls(3, "keen hates 1"));
        x.turn();
        int[] next = {2, 1, 0, 2, 1, 0, 2};
        int[] tours = {1, 1, 1, 2, 2, 2, 3};
        for (int show = 0; show < 7; show++) {
            x.show();
            Due.due("next behind " + show, x.count(4), next[show]);
            Due.due("tours behind " + show, x.count(5), tours[show]);
        }
    }

    /** With one HALL each SHOW is a tour, and it is next again. */
    static void p07OneHallAlone() {
        CountyPrint x = Due.of("shot a sort 1 long 7;hall h plain hates 0;");
        for (int show = 1; show <= 3; show++) {
            Due.due("show", x.show(), 7);
            Due.due("next", x.count(4), 0);
            Due.due("tours", x.count(5), show);
        }
    }

    /** "minutes that are shown": 0 of an empty PRINT, 600 of the longest; an empty one goes round, too. */
    static void p07NothingAndAllIsShown() {
        CountyPrint x = Due.of(ALL);
        Due.due("all is taken out", x.show(), 0);
        Due.due("an empty one", x.show(), 0);
        Due.due("a tour", x.count(5), 1);
        Due.due("no shots", Due.of("hall h chapel hates 1;").show(), 0);
        x = Due.of(Edges.shots(10).replace("long 1", "long 60") + "hall u plain hates 0;");
        Due.due("600", x.show(), 600);
    }

    /** "These lie in its DRAWER": behind what lies there already, and what another one has stays there. */
    static void p07TakenOutIntoItsOwnDrawer() {
        CountyPrint x = Due.of(Edges.shots(4) + "hall h keen hates 1;hall i keen hates 1;");
        for (int show = 0; show < 4; show++) {
            x.show();
        }
        Due.due("the first one's", x.hall(0, 1), 1 + 4);
        Due.due("the second one's", x.hall(1, 1), 2 + 8);
    }

    // ---- Promise 8

    /** Promise 8, "NONE: others": no such HALL, no such SHOT; nothing changes by it, and it can't be undone. */
    static void p08Others() {
        CountyPrint x = Due.of(Counties.HATS);
        x.show();
        String ahead = Edges.told(x);
        for (int other : Edges.others(4)) {
            Due.due("give(" + other + ", 0)", x.give(other, 0), -1);
        }
        for (int other : Edges.others(5)) {
            Due.due("give(0, " + other + ")", x.give(0, other), -1);
        }
        Edges.alike("all stays", Edges.told(x), ahead);
        Due.due("can be undone", x.count(9), 1);
    }

    /** Promise 8, "NONE: ... not in its DRAWER": in the PRINT, in another one's, given already, traded. */
    static void p08NotInItsDrawer() {
        CountyPrint x = Due.of(Counties.HATS);
        Due.due("nothing lies in one", x.give(0, 0), -1);
        x.show();
        Due.due("in the print", x.give(0, 1), -1);
        Due.due("in another one's", x.give(1, 0), -1);
        Due.due("can be undone", x.count(9), 1);
        Due.due("it lies there", x.give(0, 0), 4);
        Due.due("given already", x.give(0, 0), -1);
        x.trade(0, 3, 4);
        Due.due("traded", x.give(0, 4), -1);
        Due.due("with the other one", x.give(3, 4), 5);
    }

    /** "it stands in the PRINT ahead of all SHOTS of greater numbers": of all, of some, of none, and alone. */
    static void p08AheadOfGreaterNumbers() {
        CountyPrint x = Due.of(ALL);
        x.show();
        int[] given = {5, 9, 0, 7};
        String[] rows = {"5", "59", "059", "0579"};
        for (int i = 0; i < given.length; i++) {
            Due.due("give", x.give(0, given[i]), i + 1);
            for (int k = 0; k <= i; k++) {
                Due.due("row " + rows[i], x.shown(1, k), rows[i].charAt(k) - '0');
            }
            Due.due("no more", x.shown(1, i + 1), -1);
        }
    }

    /** Promise 8, "SHOTS of the PRINT then": from the first one given into an empty PRINT to all ten. */
    static void p08FromOneToTen() {
        CountyPrint x = Due.of(ALL);
        x.show();
        for (int shot = 9; shot >= 0; shot--) {
            Due.due("give", x.give(0, shot), 10 - shot);
        }
        Due.due("all", x.count(2), 1023);
    }

    // ---- Promise 9

    /** Promise 9, "false: others": no such HALL, no such SHOT; nothing changes by it, and it can't be undone. */
    static void p09Others() {
        CountyPrint x = Due.of(Counties.HATS);
        x.show();
        String ahead = Edges.told(x);
        for (int other : Edges.others(4)) {
            Due.due("trade(" + other + ", 1, 0)", x.trade(other, 1, 0), false);
            Due.due("trade(0, " + other + ", 0)", x.trade(0, other, 0), false);
        }
        for (int other : Edges.others(5)) {
            Due.due("trade(0, 1, " + other + ")", x.trade(0, 1, other), false);
        }
        Edges.alike("all stays", Edges.told(x), ahead);
        Due.due("can be undone", x.count(9), 1);
    }

    /** Promise 9, "false: ... the same": though the SHOT lies in its DRAWER. */
    static void p09TheSame() {
        CountyPrint x = Due.of(Counties.HATS);
        x.show();
        Due.due("the same", x.trade(0, 0, 0), false);
        Due.due("can be undone", x.count(9), 1);
        Due.due("another one", x.trade(0, 1, 0), true);
        Due.due("can be undone", x.count(9), 2);
    }

    /** Promise 9, "false: ... not in the first one's DRAWER": in the PRINT, in the second one's, in a third one's. */
    static void p09NotInTheFirstOnes() {
        CountyPrint x = Due.of(Counties.HATS);
        Due.due("nothing lies in one", x.trade(0, 1, 0), false);
        x.show();
        Due.due("in the print", x.trade(0, 1, 1), false);
        Due.due("in the second one's", x.trade(1, 0, 0), false);
        Due.due("in a third one's", x.trade(1, 2, 0), false);
        Due.due("can be undone", x.count(9), 1);
        Due.due("to the last hall", x.trade(0, 3, 0), true);
        Due.due("no more there", x.trade(0, 3, 0), false);
        Due.due("from the last hall", x.trade(3, 0, 0), true);
        Due.due("drawers", x.hall(0, 1) * 100 + x.hall(3, 1), 1700);
    }

    /** TRADE moves one SHOT alone: the PRINT, what is next and the other ones stay. */
    static void p09OneShotAlone() {
        CountyPrint x = Due.of(ALL);
        x.show();
        Due.due("trade", x.trade(0, 1, 9), true);
        Due.due("the first one's", x.hall(0, 1), 511);
        Due.due("the other one's", x.hall(1, 1), 512);
        Due.due("print", x.count(2), 0);
        Due.due("next", x.count(4), 1);
        Due.due("trade", x.trade(0, 1, 0), true);
        Due.due("the other one's", x.hall(1, 1), 513);
    }

    // ---- Promise 10

    /** Promise 10, "the HALL that is next (NONE: none)": without a HALL it is still a deed that can be undone. */
    static void p10NoHall() {
        CountyPrint x = Due.of(Edges.shots(1));
        Due.due("turn", x.turn(), -1);
        Due.due("can be undone", x.count(9), 1);
        Due.due("undo", x.undo(), true);
    }

    /** "the next one is the same": it may be the first of the order, and is the last then, or one between. */
    static void p10TheNextIsTheSame() {
        CountyPrint x = Due.of(Edges.halls(3, "keen hates 1"));
        for (int next = 0; next < 3; next++) {
            Due.due("turn", x.turn(), next);
            Due.due("its place", x.hall(next, 2), 2 - next);
            Due.due("next", x.count(4), next);
            Due.due("turn again", x.turn(), next);
            Due.due("its place", x.hall(next, 2), next);
            Due.due("tours", x.count(5), 0);
            x.show();
        }
        x = Due.of("hall h keen hates 1;");
        Due.due("one alone", x.turn(), 0);
    }

    // ---- Promise 11

    /** Promise 11, "false: nothing can be": at first, when all is undone; nothing changes by it. */
    static void p11NothingCanBe() {
        CountyPrint x = Due.of(Counties.HATS);
        Due.due("at first", x.undo(), false);
        x.show();
        Due.due("one", x.undo(), true);
        String ahead = Edges.told(x);
        Due.due("no more", x.undo(), false);
        Due.due("still no more", x.undo(), false);
        Edges.alike("all stays", Edges.told(x), ahead);
        Due.due("count", x.count(9), 0);
    }

    /** "UNDO: all of these": SHOW, GIVE, TRADE and TURN, each all of it. */
    static void p11AllOfThese() {
        CountyPrint x = Due.of(Edges.shots(2) + "hall h plain hates 1;hall i plain hates 0;");
        x.show();
        String[] ahead = new String[5];
        for (int deed = 0; deed < 4; deed++) {
            ahead[deed] = Edges.told(x);
            boolean isDone = deed == 0 ? x.give(0, 1) == 1 : deed == 1 ? x.trade(0, 1, 0)
                : deed == 2 ? x.turn() == 1 : x.show() == 1;
            Due.due("deed " + deed, isDone, true);
        }
        Due.due("count", x.count(9), 5);
        for (int deed = 3; deed >= 0; deed--) {
            Due.due("undo", x.undo(), true);
            Edges.alike("undone " + deed, Edges.told(x), ahead[deed]);
            Due.due("count", x.count(9), deed + 1);
        }
    }

    /** A SHOW by which a tour was over is undone with the tour, and the HALL that was next is. */
    static void p11ATourThatIsUndone() {
        CountyPrint x = Due.of(Edges.halls(2, "keen hates 1"));
        x.show();
        x.show();
        Due.due("tours", x.count(5), 1);
        Due.due("undo", x.undo(), true);
        Due.due("tours", x.count(5), 0);
        Due.due("next", x.count(4), 1);
    }

    /** "the last 16, one by one": sixteen of seventeen deeds, and not the first one. */
    static void p11TheLastSixteen() {
        for (int deeds : new int[] {15, 16, 17, 31, 32, 33, 40}) {
            CountyPrint x = Due.of("hall h keen hates 1;");
            for (int i = 1; i <= deeds; i++) {
                x.show();
                Due.due("count", x.count(9), Math.min(i, 16));
            }
            int last = Math.max(0, deeds - 16);
            for (int i = deeds - 1; i >= last; i--) {
                Due.due("undo", x.undo(), true);
                Due.due("tours", x.count(5), i);
                Due.due("count", x.count(9), i - last);
            }
            Due.due("no more", x.undo(), false);
            Due.due("tours", x.count(5), last);
        }
    }

    /** An undone deed makes room: behind ten that were undone of sixteen, ten more are kept with the six. */
    static void p11DeedsBehindAnUndo() {
        CountyPrint x = Due.of("hall h keen hates 1;");
        for (int i = 0; i < 20; i++) {
            x.show();
        }
        for (int i = 0; i < 10; i++) {
            x.undo();
        }
        Due.due("count", x.count(9), 6);
        for (int i = 0; i < 9; i++) {
            x.turn();
        }
        Due.due("count", x.count(9), 15);
        for (int i = 0; i < 9; i++) {
            Due.due("a turn", x.undo(), true);
            Due.due("tours", x.count(5), 10);
        }
        for (int i = 9; i >= 4; i--) {
            Due.due("a show", x.undo(), true);
            Due.due("tours", x.count(5), i);
        }
        Due.due("no more", x.undo(), false);
    }

    /** "all of these": calls that were refused, and those that are none of these, are not undone. */
    static void p11NoneButThese() {
        CountyPrint x = Due.of(Counties.HATS);
        x.show();
        x.give(0, 1);
        x.give(9, 9);
        x.trade(0, 0, 0);
        x.trade(1, 0, 0);
        x.see(2, true);
        x.mark(1, false);
        Due.round(x, "show;");
        Due.round(x, "shows;");
        Due.county(x, "shows;");
        Edges.told(x);
        Due.due("count", x.count(9), 1);
        Due.due("undo", x.undo(), true);
        Due.due("print", x.count(2), 31);
        Due.due("seen", x.count(8), 1);
        Due.due("lines", x.count(7), 1);
        Due.due("the mark is there", x.mark(1, true), true);
    }

    // ---- Promise 12

    /** Promise 12, "-2: others": each what that is not 0 to 2, with a ROUND and without one. */
    static void p12Others() {
        CountyPrint x = Due.of(Counties.HATS);
        for (int time = 0; time < 2; time++) {
            for (int what : Edges.others(3)) {
                Due.due("judged(" + what + ")", x.judged(what), -2);
            }
            Due.round(x, "show;give bap hat;");
        }
    }

    /** Promise 12, "lines (NONE: none)": no ROUND, one of no lines, one in which all can be and makes sense. */
    static void p12None() {
        CountyPrint x = Due.of(Counties.CALM);
        for (String round : new String[] {null, "", "turn;", "show;turn;show;show;show;"}) {
            if (round != null) {
                Due.due("round", Due.round(x, round), 0);
            }
            Due.due("can't be", x.judged(0), -1);
            Due.due("no sense", x.judged(1), -1);
        }
        Due.due("minutes", x.judged(2), 32);
        Due.round(x, "turn;");
        Due.due("nothing shown", x.judged(2), 0);
    }

    /** "the first line (from 0) that can't be": the first, the fortieth, and not a later one. */
    static void p12TheFirstLineThatCannotBe() {
        CountyPrint x = Due.of(Counties.HATS);
        Due.round(x, "give bap kiss;give bap kiss;");
        Due.due("the first", x.judged(0), 0);
        Due.round(x, "turn;".repeat(39) + "give bap kiss;");
        Due.due("the fortieth", x.judged(0), 39);
        Due.round(x, "show;trade bap mine kiss;trade bap mine kiss;give bap kiss;");
        Due.due("the third", x.judged(0), 2);
        Due.round(x, "show;give bap hat;");
        Due.due("not in a drawer", x.judged(0), 1);
        Due.round(x, "show;give mine kiss;");
        Due.due("in another one's", x.judged(0), 1);
    }

    /** "(a line that can't be is left out ...)": what comes behind it is judged as if it were not there. */
    static void p12LeftOut() {
        CountyPrint x = Due.of(Counties.HATS);
        Due.round(x, "give bap kiss;show;trade mine bap kiss;trade chap bap work;give bap kiss;show;");
        Due.due("can't be", x.judged(0), 0);
        Due.due("no sense", x.judged(1), 1);
        // bap shows hat, work, horse: 14; the kiss comes back; mine takes kiss and work: 7.
        Due.due("minutes", x.judged(2), 14 + 7);
    }

    /** "a turn always can", without a HALL, too; "show without a HALL" can't be. */
    static void p12WithoutAHall() {
        CountyPrint x = Due.of(Edges.shots(2) + "needs a b;");
        Due.round(x, "turn;turn;");
        Due.due("turns can be", x.judged(0), -1);
        Due.round(x, "turn;show;turn;show;");
        Due.due("a show can't", x.judged(0), 1);
        Due.due("nothing is shown", x.judged(1), -1);
        Due.due("nothing is shown", x.judged(2), 0);
    }

    /** "the first show's line at which it made no SENSE": the first line, the fortieth, and of two the first. */
    static void p12TheFirstThatMadeNoSense() {
        CountyPrint x = Due.of(Counties.HATS);
        Due.round(x, "show;show;");
        Due.due("the first", x.judged(1), 0);
        Due.round(x, "turn;".repeat(39) + "show;");
        Due.due("the fortieth", x.judged(1), 39);
        x = Due.of(Edges.shots(2) + "needs b a;hall h keen hates 0;hall i keen hates place=0;");
        Due.round(x, "show;turn;turn;show;show;show;show;");
        Due.due("the second show", x.judged(1), 3);
    }

    /** "the first show's line": that no sense is made by what was given or traded is no show's. */
    static void p12ShowsAlone() {
        CountyPrint x = Due.of("shot a sort 1 long 1;shot b sort 2 long 1;needs b a;"
            + "hall h plain hates 1;hall i plain hates kind=2;");
        Due.round(x, "show;give h b;turn;turn;show;");
        Due.due("b without a is not shown: i takes it out", x.judged(1), -1);
        Due.due("all can be", x.judged(0), -1);
    }

    /** "JUDGED: the ROUND from the beginning": with the whole FILM, whatever was done by hand; all stays. */
    static void p12FromTheBeginning() {
        CountyPrint x = Edges.busy();
        CountyPrint y = Due.of(Counties.HATS);
        Due.due("round", Due.round(x, "show;show;give bap kiss;turn;show;"), 0);
        Due.due("round", Due.round(y, "show;show;give bap kiss;turn;show;"), 0);
        String ahead = Edges.told(x);
        for (int what = 0; what < 3; what++) {
            Due.due("judged", x.judged(what), y.judged(what));
        }
        // bap 14, mine takes work: 7, the kiss comes back: 12, kin takes it out: 7.
        Due.due("minutes", x.judged(2), 14 + 7 + 7);
        Edges.alike("all stays", Edges.told(x), ahead);
    }

    /** A turn of a ROUND turns its order: behind the last HALL of it comes another one than without. */
    static void p12ATurnTurnsTheOrder() {
        CountyPrint x = Due.of(Counties.HATS);
        Due.round(x, "show;show;");
        Due.due("bap and mine", x.judged(2), 14 + 7);
        Due.round(x, "turn;show;show;");
        Due.due("bap and chap, which takes hat and work", x.judged(2), 14 + 4);
        Due.round(x, "turn;show;turn;show;");
        Due.due("bap, then chap, which was next when it was turned", x.judged(2), 14 + 4);
        Due.round(x, "turn;turn;show;show;");
        Due.due("bap and mine", x.judged(2), 14 + 7);
    }

    /** "minutes that were shown, together": forty shows of 600 minutes. */
    static void p12TheMostMinutes() {
        CountyPrint x = Due.of(Edges.shots(10).replace("long 1", "long 60") + "hall u plain hates 0;");
        Due.round(x, "show;".repeat(40));
        Due.due("minutes", x.judged(2), 24000);
    }

    // ---- Promise 36

    /** Promise 36, "false: none such": MARKS are "0 to 3", to be laid and to be gone back to. */
    static void p36NoneSuch() {
        CountyPrint x = Due.of(Counties.HATS);
        for (int mark : Edges.others(4)) {
            Due.due("laid " + mark, x.mark(mark, false), false);
            Due.due("back " + mark, x.mark(mark, true), false);
        }
        for (int mark = 0; mark < 4; mark++) {
            Due.due("laid " + mark, x.mark(mark, false), true);
            Due.due("back " + mark, x.mark(mark, true), true);
        }
    }

    /** Promise 36, "false: ... nothing is on it (back)": each for itself; nothing changes by it. */
    static void p36NothingIsOnIt() {
        for (int laid = 0; laid < 4; laid++) {
            CountyPrint x = Due.of(Counties.HATS);
            x.show();
            x.mark(laid, false);
            x.show();
            String ahead = Edges.told(x);
            for (int mark = 0; mark < 4; mark++) {
                if (mark != laid) {
                    Due.due("back", x.mark(mark, true), false);
                }
            }
            Edges.alike("all stays", Edges.told(x), ahead);
            Due.due("can be undone", x.count(9), 2);
            Due.due("back", x.mark(laid, true), true);
            Due.due("print", x.count(2), 14);
        }
    }

    /** A MARK on which something is is laid anew; the others hold what they held. */
    static void p36LaidAnew() {
        CountyPrint x = Due.of("hall h keen hates 1;");
        for (int mark = 0; mark < 4; mark++) {
            x.mark(mark, false);
            x.show();
        }
        x.mark(2, false);
        x.show();
        int[] tours = {0, 1, 4, 3};
        for (int mark = 3; mark >= 0; mark--) {
            Due.due("back", x.mark(mark, true), true);
            Due.due("tours", x.count(5), tours[mark]);
        }
        Due.due("back again", x.mark(2, true), true);
        Due.due("tours", x.count(5), 4);
    }

    /** "MARKS 0 to 3 hold the PRINT, DRAWERS, the order, what is next, tours, the ROUND, what is SEEN". */
    static void p36WhatMarksHold() {
        CountyPrint x = Edges.busy();
        String ahead = Edges.told(x);
        for (int i = 0; i < 5; i++) {
            x.show();
        }
        x.turn();
        x.give(2, 4);
        x.trade(0, 1, 2);
        Due.round(x, "show;turn;show;show;show;turn;");
        x.see(0, true);
        Due.due("back", x.mark(0, true), true);
        Edges.alike("all is as it was", Edges.told(x), ahead);
        x.show();
        Due.due("back", x.mark(0, true), true);
        Edges.alike("all is as it was", Edges.told(x), ahead);
    }

    /** MARKS hold a ROUND of no lines and of forty, and nothing SEEN and eight. */
    static void p36TheLeastAndTheMost() {
        CountyPrint x = Due.of(Counties.HATS);
        x.mark(0, false);
        Due.round(x, "show;".repeat(39) + "give bap hat;");
        for (int i = 0; i < 8; i++) {
            x.see(i < 7 ? 0 : 4, i == 7);
        }
        x.mark(3, false);
        x.mark(0, true);
        Due.due("lines and seen", x.count(7) * 10 + x.count(8), 0);
        Due.round(x, "turn;".repeat(40));
        for (int i = 0; i < 8; i++) {
            x.see(0, true);
        }
        x.mark(3, true);
        Due.due("lines and seen", x.count(7) * 10 + x.count(8), 408);
        Due.due("the fortieth line", x.judged(0), 39);
        Due.due("no kiss, but a shrug: mine and kin", x.halls(), 6);
        Due.due("8 there are", x.see(0, true), false);
    }

    /** "MARKS ... hold ... the ROUND": each line of it with its HALLS and its SHOT. */
    static void p36AllOfARound() {
        CountyPrint x = Due.of(Counties.HATS);
        Due.round(x, "show;trade bap chap kiss;give chap kiss;trade bap mine shrug;turn;show;");
        int[] judged = {x.judged(0), x.judged(1), x.judged(2)};
        Due.due("all can be", judged[0], -1);
        Due.due("the first makes no sense", judged[1], 0);
        // bap 14, the kiss comes back; mine is next, turned or not, and takes kiss and work: 7.
        Due.due("minutes", judged[2], 14 + 7);
        x.mark(0, false);
        for (int time = 0; time < 2; time++) {
            Due.round(x, "turn;trade kin mine hat;give kin hat;trade kin chap hat;show;show;turn;");
            Due.due("can't be", x.judged(0), 1);
        }
        x.mark(0, true);
        for (int what = 0; what < 3; what++) {
            Due.due("judged", x.judged(what), judged[what]);
        }
    }

    /** "(nothing can be undone when one is gone back to)"; laying one leaves what can be undone. */
    static void p36NothingCanBeUndoneThen() {
        CountyPrint x = Due.of(Counties.HATS);
        x.show();
        x.turn();
        x.mark(0, false);
        Due.due("laid", x.count(9), 2);
        x.show();
        Due.due("back", x.mark(0, true), true);
        Due.due("count", x.count(9), 0);
        Due.due("undo", x.undo(), false);
        Due.due("print", x.count(2), 14);
        x.turn();
        Due.due("a new deed", x.count(9), 1);
        Due.due("undo", x.undo(), true);
        Due.due("no more", x.undo(), false);
    }

    /** What was told or seen behind a MARK does not change what lies on it. */
    static void p36WhatIsToldLaterIsNotOnIt() {
        CountyPrint x = Due.of(Counties.HATS);
        Due.round(x, "show;");
        x.see(0, false);
        x.mark(1, false);
        x.mark(1, true);
        Due.round(x, "turn;turn;");
        Due.round(x, "turn;turn;turn;");
        x.see(1, true);
        x.show();
        x.mark(1, true);
        Due.due("lines", x.count(7), 1);
        Due.due("minutes of the round", x.judged(2), 14);
        Due.due("seen", x.count(8), 1);
        Due.due("print", x.count(2), 31);
        Due.due("halls", x.halls(), 7);
    }

    // ---- Promise 37

    /** Promise 37, "NONE for another what": less than 0, and from 11 on. */
    static void p37AnotherWhat() {
        CountyPrint x = Edges.busy();
        for (int what : Edges.others(11)) {
            Due.due("count(" + what + ")", x.count(what), -1);
        }
    }

    /** Promise 37: the most that each what can answer. */
    static void p37TheMost() {
        CountyPrint x = Due.of(Edges.shots(10).replace("long 1", "long 60") + Edges.halls(6, "plain hates 0"));
        for (int i = 0; i < 17; i++) {
            x.show();
        }
        for (int i = 0; i < 9; i++) {
            x.see(0, true);
        }
        Due.round(x, "turn;".repeat(40));
        Due.tell(x, "!".repeat(1008));
        int[] counts = {10, 6, 1023, 600, 5, 2, 0, 40, 8, 16, 1000};
        for (int what = 0; what < counts.length; what++) {
            Due.due("count(" + what + ")", x.count(what), counts[what]);
        }
        x = Due.of(ALL);
        x.show();
        Due.due("all in drawers", x.count(6), 1023);
        Due.due("print", x.count(2), 0);
        Due.due("minutes", x.count(3), 0);
    }

    /** Promise 37, "4: the HALL that is next (NONE: none)": with SHOTS alone there is none. */
    static void p37NoHallIsNext() {
        Due.due("no halls", Due.of(Edges.shots(2)).count(4), -1);
        Due.due("one hall", Due.of("hall h keen hates 1;").count(4), 0);
        CountyPrint x = Due.of(Counties.HATS);
        Due.due("shots and halls", x.count(4), 0);
        Due.county(x, Edges.shots(2));
        Due.due("no halls any more", x.count(4), -1);
    }
}
