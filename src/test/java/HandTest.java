/** Promises 5 to 11, 36 and 37: what is done by hand, undone, marked and counted. */
public final class HandTest {
    public static void main(String[] args) {
        shots();
        showing();
        giving();
        trading();
        turning();
        undoing();
        sixteenAreUndone();
        marks();
        marksInFull();
        counts();
        Due.end();
    }

    private static void shots() {
        CountyPrint x = Due.of(Counties.HATS);
        Due.due("shot(2, 0)", x.shot(2, 0), 3);
        Due.due("shot(2, 1)", x.shot(2, 1), 7);
        Due.due("shot(2, 2)", x.shot(2, 2), 1);
        Due.due("shot(4, 2)", x.shot(4, 2), 8);
        Due.due("shot(0, 2)", x.shot(0, 2), 0);
        Due.due("shot(0, 3)", x.shot(0, 3), 1);
        x.show();
        Due.due("shot(0, 3)", x.shot(0, 3), 0);
        Due.due("shot(1, 3)", x.shot(1, 3), 1);
        Due.due("shot(5, 0)", x.shot(5, 0), -2);
        Due.due("shot(-1, 0)", x.shot(-1, 0), -2);
        Due.due("shot(0, 4)", x.shot(0, 4), -2);
        Due.due("shot(0, -1)", x.shot(0, -1), -2);
        Due.due("shot(MIN, 3)", x.shot(Integer.MIN_VALUE, 3), -2);
        Due.due("shot(MAX, 3)", x.shot(Integer.MAX_VALUE, 3), -2);
    }

    private static void showing() {
        CountyPrint x = Due.of(Counties.HATS);
        int[] minutes = {14, 7, 3, 0, 0};
        int[] drawers = {17, 4, 8, 2, 17};
        for (int i = 0; i < 5; i++) {
            Due.due("next", x.count(4), i % 4);
            Due.due("tours", x.count(5), i / 4);
            Due.due("show " + i, x.show(), minutes[i]);
            Due.due("drawer", x.hall(i % 4, 1), drawers[i]);
        }
        Due.due("the print", x.count(2), 0);
        Due.due("one hall", Due.of("hall h plain hates 1;").show(), 0);
        Due.due("no hall", Due.of("shot a sort 1 long 1;").show(), -1);
        x = Due.of("shot a sort 1 long 1;");
        x.show();
        Due.due("nothing to be undone by it", x.count(9), 0);
        x = Due.of("shot a sort 1 long 9;hall h keen hates 0;");
        Due.due("show", x.show() + x.show(), 18);
        Due.due("each show is a tour", x.count(5), 2);
        Due.due("next", x.count(4), 0);
    }

    private static void giving() {
        CountyPrint x = Due.of(Counties.HATS);
        x.show();
        Due.due("not in that one's", x.give(1, 0), -1);
        Due.due("not in a drawer", x.give(0, 1), -1);
        Due.due("no such hall", x.give(4, 0), -1);
        Due.due("no such hall", x.give(-1, 0), -1);
        Due.due("no such shot", x.give(0, 5), -1);
        Due.due("no such shot", x.give(0, -1), -1);
        Due.due("no such shot, though of like bits", x.give(0, 32), -1);
        Due.due("no such shot, though of like bits", x.give(0, 36), -1);
        Due.due("no such shot, though of like bits", x.give(0, -32), -1);
        Due.due("nothing to be undone by these", x.count(9), 1);
        Due.due("give", x.give(0, 4), 4);
        Due.due("print", x.count(2), 30);
        Due.due("give", x.give(0, 0), 5);
        Due.due("drawer", x.hall(0, 1), 0);
        Due.due("next stays", x.count(4), 1);
        Due.due("kiss is ahead of hat", x.hall(3, 3), 6);
        Due.due("shown in the order of the film", x.hall(2, 3), 1);
    }

    private static void trading() {
        CountyPrint x = Due.of(Counties.HATS);
        Due.due("nothing there", x.trade(0, 1, 0), false);
        x.show();
        Due.due("the same", x.trade(0, 0, 0), false);
        Due.due("no such hall", x.trade(0, 4, 0), false);
        Due.due("no such hall", x.trade(0, -1, 0), false);
        Due.due("no such hall", x.trade(4, 0, 0), false);
        Due.due("no such hall", x.trade(-1, 0, 0), false);
        Due.due("no such shot", x.trade(0, 1, 5), false);
        Due.due("no such shot", x.trade(0, 1, 32), false);
        Due.due("no such shot", x.trade(0, 1, -32), false);
        Due.due("in the print", x.trade(0, 1, 1), false);
        Due.due("another one's", x.trade(1, 0, 0), false);
        Due.due("nothing to be undone by these", x.count(9), 1);
        Due.due("trade", x.trade(0, 3, 0), true);
        Due.due("drawers", x.hall(0, 1) * 100 + x.hall(3, 1), 1601);
        Due.due("again", x.trade(0, 3, 0), false);
        Due.due("back", x.trade(3, 0, 0), true);
        Due.due("drawers", x.hall(0, 1) * 100 + x.hall(3, 1), 1700);
        Due.due("the print stays", x.count(2), 14);
    }

    private static void turning() {
        CountyPrint x = new CountyPrint();
        Due.due("without halls", x.turn(), -1);
        Due.due("can be undone", x.count(9), 1);
        x = Due.of(Counties.HATS);
        Due.due("turn", x.turn(), 0);
        for (int hall = 0; hall < 4; hall++) {
            Due.due("place", x.hall(hall, 2), 3 - hall);
        }
        Due.due("the last one shows", x.show(), 14);
        Due.due("a tour is over", x.count(5), 1);
        Due.due("next", x.count(4), 3);
        Due.due("show", x.show(), 4);
        Due.due("next", x.count(4), 2);
        Due.due("turn", x.turn(), 2);
        Due.due("place", x.hall(2, 2), 2);
        x.show();
        Due.due("next", x.count(4), 3);
        x.show();
        Due.due("next", x.count(4), 0);
        Due.due("tours", x.count(5), 2);
    }

    private static void undoing() {
        CountyPrint x = Due.of(Counties.HATS);
        Due.due("nothing", x.undo(), false);
        x.show();
        x.trade(0, 2, 4);
        x.give(0, 0);
        x.turn();
        x.show();
        x.show();
        Due.round(x, "show;");
        x.see(3, true);
        Due.due("tours", x.count(5), 1);
        Due.due("undo a show", x.undo(), true);
        Due.due("tours", x.count(5), 0);
        Due.due("next", x.count(4), 0);
        Due.due("undo a show", x.undo(), true);
        Due.due("print", x.count(2), 15);
        Due.due("next", x.count(4), 1);
        Due.due("undo the turn", x.undo(), true);
        Due.due("place", x.hall(1, 2), 1);
        Due.due("undo the gift", x.undo(), true);
        Due.due("print", x.count(2), 14);
        Due.due("drawer", x.hall(0, 1), 1);
        Due.due("undo the trade", x.undo(), true);
        Due.due("drawers", x.hall(0, 1) * 100 + x.hall(2, 1), 1700);
        Due.due("undo the first show", x.undo(), true);
        Due.due("print", x.count(2), 31);
        Due.due("drawers", x.count(6), 0);
        Due.due("nothing more", x.undo(), false);
        Due.due("the round stays", x.count(7), 1);
        Due.due("what was seen stays", x.count(8), 1);
    }

    private static void sixteenAreUndone() {
        CountyPrint x = Due.of(Counties.CALM);
        for (int i = 1; i <= 21; i++) {
            x.show();
            Due.due("can be undone", x.count(9), Math.min(i, 16));
        }
        for (int i = 20; i >= 5; i--) {
            Due.due("undo", x.undo(), true);
            Due.due("tours", x.count(5), i / 2);
            Due.due("next", x.count(4), i % 2);
        }
        Due.due("no more", x.undo(), false);
        Due.due("tours", x.count(5), 2);
        x.turn();
        Due.due("can be undone", x.count(9), 1);
        Due.due("undo", x.undo(), true);
        Due.due("place", x.hall(0, 2), 0);
    }

    private static void marks() {
        CountyPrint x = Due.of(Counties.HATS);
        Due.due("mark(-1)", x.mark(-1, false), false);
        Due.due("mark(4)", x.mark(4, false), false);
        Due.due("mark(4) back", x.mark(4, true), false);
        Due.due("mark(3) back", x.mark(3, true), false);
        x.show();
        x.turn();
        x.see(2, true);
        Due.round(x, "show;turn;");
        Due.due("mark(3)", x.mark(3, false), true);
        Due.due("can be undone", x.count(9), 2);
        x.show();
        x.show();
        x.turn();
        x.trade(0, 1, 0);
        x.see(3, true);
        Due.round(x, "");
        Due.due("mark(0)", x.mark(0, false), true);
        Due.due("mark(1) back", x.mark(1, true), false);
        Due.due("can be undone", x.count(9), 6);
        for (int again = 0; again < 2; again++) {
            Due.due("mark(3) back", x.mark(3, true), true);
            Due.due("print", x.count(2), 14);
            Due.due("drawers", x.hall(0, 1), 17);
            Due.due("place", x.hall(0, 2), 3);
            Due.due("next", x.count(4), 1);
            Due.due("tours", x.count(5), 0);
            Due.due("lines", x.count(7), 2);
            Due.due("seen", x.count(8), 1);
            Due.due("can be undone", x.count(9), 0);
            Due.due("undo", x.undo(), false);
            Due.round(x, "show;");
            x.give(0, 0);
            x.see(4, false);
        }
        Due.due("mark(0) back", x.mark(0, true), true);
        Due.due("tours", x.count(5), 1);
        Due.due("drawer", x.hall(0, 1), 16);
        Due.due("drawer", x.hall(1, 1), 5);
        Due.due("place", x.hall(0, 2), 0);
        Due.due("lines", x.count(7), 0);
        Due.due("seen", x.count(8), 2);
        Due.due("laid anew", x.mark(3, false), true);
        x.turn();
        Due.due("mark(3) back", x.mark(3, true), true);
        Due.due("seen", x.count(8), 2);
        Due.due("mark(MIN)", x.mark(Integer.MIN_VALUE, true), false);
        Due.due("mark(MAX)", x.mark(Integer.MAX_VALUE, false), false);
    }

    /** What a mark holds of the round and of what was seen is held line by line. */
    private static void marksInFull() {
        CountyPrint x = Due.of(Counties.HATS);
        Due.round(x, "show;give bap kiss;show;trade mine chap work;turn;");
        x.see(0, true);
        x.see(1, false);
        Due.due("minutes", x.judged(2), 14 + 7);
        Due.due("all can be", x.judged(0), -1);
        Due.due("chap shows the kiss, not the hat", x.halls(), 8);
        x.mark(2, false);
        Due.due("a new round", Due.round(x, "give chap hat;turn;show;turn;turn;show;show;"), 0);
        for (int i = 0; i < 6; i++) {
            x.see(3, false);
        }
        Due.due("no hall", x.halls(), 0);
        x.mark(2, true);
        Due.due("minutes", x.judged(2), 14 + 7);
        Due.due("all can be", x.judged(0), -1);
        Due.due("chap", x.halls(), 8);
        x = Due.of(Counties.HATS);
        x.mark(0, false);
        x.see(2, true);
        x.mark(1, false);
        x.mark(0, true);
        x.see(4, false);
        Due.due("bap hates the shrug", x.halls(), 1);
        x.mark(1, true);
        Due.due("bap and kin show work", x.halls(), 5);
    }

    private static void counts() {
        CountyPrint x = Due.of(Counties.HATS);
        x.show();
        x.see(0, false);
        x.see(0, false);
        Due.round(x, "show;show;turn;");
        Due.tell(x, "hats");
        int[] counts = {5, 4, 14, 14, 1, 0, 17, 3, 2, 1, 4};
        for (int what = 0; what < counts.length; what++) {
            Due.due("count(" + what + ")", x.count(what), counts[what]);
        }
        Due.due("count(-1)", x.count(-1), -1);
        Due.due("count(11)", x.count(11), -1);
        Due.due("count(MIN)", x.count(Integer.MIN_VALUE), -1);
        Due.due("count(MAX)", x.count(Integer.MAX_VALUE), -1);
    }
}
