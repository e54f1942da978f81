/** What halls take out: laws worked out, and the four kinds (promise 6, what 0 and 3). */
public final class LawTest {
    /** Sorts 0, 3, 3, 5, 9, 0; minutes 1, 2, 30, 4, 60, 6. */
    private static final String SIX = "shot a sort 0 long 1;shot b sort 3 long 2;shot c sort 3 long 30;"
        + "shot d sort 5 long 4;shot e sort 9 long 60;shot f sort 0 long 6;";

    public static void main(String[] args) {
        facts();
        operators();
        fromTheLeft();
        wrapping();
        kinds();
        theRowThatCame();
        wrongAsked();
        Due.end();
    }

    private static void out(String kind, String law, int bits) {
        CountyPrint x = Due.of(SIX + "hall h " + kind + " hates " + law + ";");
        Due.due(kind + " hates " + law, x.hall(0, 3), bits);
    }

    private static void facts() {
        out("plain", "kind", 2 + 4 + 8 + 16);
        out("plain", "kind=3", 2 + 4);
        out("plain", "minutes=60", 16);
        out("plain", "minutes<4", 1 + 2);
        out("plain", "place", 62);
        out("plain", "place=5", 32);
        out("plain", "ahead=10", 1);
        out("plain", "ahead=3", 4 + 8);
        out("plain", "ahead", 1 + 4 + 8 + 16 + 32);
        out("plain", "ahead=kind", 4);
    }

    private static void operators() {
        out("plain", "0", 0);
        out("plain", "1", 63);
        out("plain", "9999", 63);
        out("plain", "1-2", 63);
        out("plain", "not kind", 1 + 32);
        out("plain", "not kind=1", 1 + 32);
        out("plain", "not (kind=0)", 62 - 32);
        out("plain", "not not kind=1", 62 - 32);
        out("plain", "minutes-place*2=minutes", 1);
        out("plain", "minutes+place=3", 2);
        out("plain", "2+place*2=minutes", 0);
        out("plain", "(2+place)*2=minutes*2", 0);
        out("plain", "(1+place)*1=minutes", 1 + 2 + 8 + 32);
        out("plain", "5-2-1=2", 63);
        out("plain", "2*3-1=5", 63);
        out("plain", "1-2*3=0-5", 63);
        out("plain", "(kind<3)+(place<2)=2", 1);
        out("plain", "place<3", 7);
        out("plain", "(place<3)=1", 7);
        out("plain", "2 and 4", 63);
        out("plain", "(2 and 4)=1", 63);
        out("plain", "(0 or 4)=1", 63);
        out("plain", "(0 or 0)=0", 63);
        out("plain", "(not 7)=0", 63);
        out("plain", "(3<4)=1 and (4<4)=0 and (4=4)=1", 63);
    }

    private static void fromTheLeft() {
        out("plain", "1 or 1 and 0", 0);
        out("plain", "0 and 0 or 1", 63);
        out("plain", "1 or (1 and 0)", 63);
        out("plain", "place=0 or place=1 and kind=3", 2);
        out("plain", "kind=3 and place=1 or place=5", 2 + 32);
    }

    private static void wrapping() {
        out("plain", "9999*9999*9999<0", 63);
        out("plain", "9999*9999*9999=0-(1027*1000*1000+349*1000+969)", 63);
        out("plain", "4096*4096*256=0", 63);
        out("plain", "4096*4096*128<0", 63);
        out("plain", "4096*4096*128-1<0", 0);
    }

    private static void kinds() {
        out("plain", "kind=0", 1 + 32);
        out("keen", "kind=0", 1);
        out("keen", "kind=3", 2);
        out("keen", "kind=7", 0);
        out("chapel", "kind=0", 1 + 2 + 32);
        out("chapel", "kind=3", 2 + 4 + 8);
        out("chapel", "kind=9", 16 + 32);
        out("chapel", "place=5", 32);
        out("chapel", "0", 0);
        out("miner", "kind=0", 1);
        out("miner", "kind=3", 6);
        out("miner", "place=5", 0);
        out("miner", "1", 31);
        CountyPrint x = Due.of(SIX + "hall p plain hates 1;hall k keen hates 1;hall ch chapel hates 1;"
            + "hall m miner hates 1;");
        for (int hall = 0; hall < 4; hall++) {
            Due.due("kind of " + hall, x.hall(hall, 0), hall);
        }
    }

    /** b is taken out first: then places and what is ahead are those of the row without it. */
    private static void theRowThatCame() {
        CountyPrint x = Due.of(SIX + "hall k keen hates kind=3;hall p plain hates ahead=0 or place=4;"
            + "hall ch chapel hates kind=5;hall m miner hates kind=0;");
        Due.due("show", x.show(), 1 + 30 + 4 + 60 + 6);
        Due.due("c is behind a now, f at the place 4", x.hall(1, 3), 4 + 32);
        Due.due("the miner's last one is f", x.hall(3, 3), 1);
        Due.due("show", x.show(), 1 + 4 + 60);
        Due.due("drawer", x.hall(1, 1), 36);
        Due.due("e is behind d", x.hall(2, 3), 24);
        Due.due("show", x.show(), 1);
        Due.due("a alone is the last one", x.hall(3, 3), 0);
        Due.due("show", x.show(), 1);
        Due.due("nothing hated: plain", x.hall(0, 3), 0);
        Due.due("the drawers", x.count(6), 62);
    }

    private static void wrongAsked() {
        CountyPrint x = Due.of(SIX + "hall h plain hates 1;");
        Due.due("hall(-1, 0)", x.hall(-1, 0), -1);
        Due.due("hall(1, 0)", x.hall(1, 0), -1);
        Due.due("hall(0, 4)", x.hall(0, 4), -1);
        Due.due("hall(0, -1)", x.hall(0, -1), -1);
        Due.due("hall(MIN, 3)", x.hall(Integer.MIN_VALUE, 3), -1);
        Due.due("hall(MAX, 3)", x.hall(Integer.MAX_VALUE, 3), -1);
        Due.due("hall(0, MAX)", x.hall(0, Integer.MAX_VALUE), -1);
        Due.due("hall of a new one", new CountyPrint().hall(0, 0), -1);
    }
}
