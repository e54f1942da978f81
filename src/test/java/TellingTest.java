/** Promises 3 and 4: counties and rounds as they are told, and their faults. */
public final class TellingTest {
    private static final String A = "shot a sort 1 long 5;";
    private static final String AB = A + "shot b sort 2 long 3;";

    public static void main(String[] args) {
        rightCounties();
        faultsOfShots();
        faultsOfNeeds();
        faultsOfHalls();
        faultsOfLaws();
        tooMany();
        tokens();
        allStaysAtAFault();
        aNewCountyBeginsAnew();
        rightRounds();
        faultsOfRounds();
        Due.end();
    }

    /** The fault due: this kind, at the sign that stands behind the mark ^ (which is left out). */
    private static void fault(String marked, int kind) {
        int at = marked.indexOf('^');
        CountyPrint x = new CountyPrint();
        Due.due("county of " + marked, Due.county(x, marked.replace("^", "")), kind + 16 * at);
        Due.due("the tape then", x.count(10), 0);
        Due.due("shots then", x.count(0), 0);
    }

    private static void rightCounties() {
        CountyPrint x = Due.of("");
        Due.due("no shots", x.count(0), 0);
        x = Due.of(" \n ");
        x = Due.of("hall h miner hates 1;" + A);
        Due.due("a hall ahead of a shot", x.count(0) * 10 + x.count(1), 11);
        Due.due("it is a miner's", x.hall(0, 0), 3);
        x = Due.of("shot a sort0long60;shot\nb\nsort\n9\nlong\n1\n;needs a b;needs b a;");
        Due.due("sort", x.shot(0, 0), 0);
        Due.due("long", x.shot(0, 1), 60);
        Due.due("sort", x.shot(1, 0), 9);
        Due.due("long", x.shot(1, 1), 1);
        Due.due("needs", x.shot(0, 2), 2);
        Due.due("needs", x.shot(1, 2), 1);
        x = Due.of("shot kind sort 0009 long 0001;hall minutes plain hates kind=9;hall place keen hates 1;"
            + "hall ahead chapel hates 2;shot abcdefgh sort 1 long 1;");
        Due.due("facts may be names", x.count(0) * 10 + x.count(1), 23);
        Due.due("and stay facts", x.hall(0, 3), 1);
    }

    private static void faultsOfShots() {
        fault("^shop a sort 1 long 5;", 1);
        fault("^;", 1);
        fault("^a", 1);
        fault("shot^", 1);
        fault("shot  ^", 1);
        fault("shot ^;", 1);
        fault("shot ^1 sort 1 long 5;", 1);
        fault("shot ^A sort 1 long 5;", 1);
        for (String word : ("shot sort long needs hall hates show give trade turn plain keen chapel miner not and or")
            .split(" ")) {
            fault("shot ^" + word + " sort 1 long 5;", 1);
        }
        fault("shot ^abcdefghi sort 1 long 5;", 1);
        fault(A + "shot ^a sort 1 long 5;", 3);
        fault("hall a plain hates 1;shot ^a sort 1 long 5;", 3);
        fault("shot a ^long 1 long 5;", 1);
        fault("shot a sort ^b long 5;", 1);
        fault("shot a sort ^10 long 5;", 4);
        fault("shot a sort ^9999 long 5;", 4);
        fault("shot a sort ^12345 long 5;", 1);
        fault("shot a sort ^-1 long 5;", 1);
        fault("shot a sort 1 ^5;", 1);
        fault("shot a sort 1 long ^;", 1);
        fault("shot a sort 1 long ^0;", 4);
        fault("shot a sort 1 long ^61;", 4);
        fault("shot a sort 1 long 5^", 1);
        fault("shot a sort 1 long 5 ^shot b sort 1 long 5;", 1);
        fault("shot a sort 1 long 5;^,", 1);
    }

    private static void faultsOfNeeds() {
        fault("needs ^a a;", 2);
        fault("needs ^shot a;", 1);
        fault(A + "needs a ^b;", 2);
        fault(A + "needs ^b a;shot b sort 2 long 3;", 2);
        fault(A + "hall h plain hates 1;needs ^h a;", 2);
        fault(A + "hall h plain hates 1;needs a ^h;", 2);
        fault(A + "needs a ^a;", 3);
        fault(AB + "needs a b;needs b a;needs b ^a;", 3);
        fault(AB + "needs a b;needs a ^b;", 3);
        fault(AB + "needs a ^;", 1);
        fault(AB + "needs a ^1;", 1);
        fault(AB + "needs a b ^b;", 1);
        fault(AB + "needs a ^needs;", 1);
        fault(AB + "needs a b^", 1);
    }

    private static void faultsOfHalls() {
        fault("hall ^hall plain hates 1;", 1);
        fault("hall ^;", 1);
        fault("hall h ^hates 1;", 1);
        fault("hall h ^kind hates 1;", 1);
        fault("hall h plain ^1;", 1);
        fault("hall h plain hates ^;", 1);
        fault("hall h plain hates 1^", 1);
        fault("hall h plain hates 1 ^hall i plain hates 1;", 1);
        fault("hall h plain hates 1;hall ^h keen hates 1;", 3);
        fault(A + "hall ^a keen hates 1;", 3);
    }

    private static void law(String marked, int kind) {
        fault("hall h plain hates " + marked, kind);
    }

    private static void faultsOfLaws() {
        law("^a;", 1);
        law("kind ^kind;", 1);
        law("1 < 2 ^< 3;", 1);
        law("1 = 2 ^= 3;", 1);
        law("1 = 2 ^< 3;", 1);
        law("^-1;", 1);
        law("^<1;", 1);
        law("1+^;", 1);
        law("1-^-1;", 1);
        law("1*^and 2;", 1);
        law("1 and ^or 2;", 1);
        law("1 ^not 2;", 1);
        law("not ^;", 1);
        law("(^);", 1);
        law("(1^;", 1);
        law("(1 and 2^", 1);
        law("1^);", 1);
        law("^112345;", 1);
        law("1 + ^12345;", 1);
        law("1 ^/ 2;", 1);
        law("not not not not not ^1;", 5);
        law("not not not not not ^not 1;", 5);
        law("not not not not not ^;", 1);
        law("(((((^kind)))));", 5);
        law("(((((^(1))))));", 5);
        law("(((((^)))));", 1);
        law("not(not(not ^1));", 5);
        law("(1+(1*(1<(1=(^1 or 2)))));", 5);
        law("not not not not 1 and not not not not not ^1;", 5);
        Due.of("hall h plain hates not not not not 1;");
        Due.of("hall h plain hates ((((1)))) and not(not kind) or (1)+(2)*(3)-((not(4)));");
        Due.of("hall h plain hates 1 or 1<1+1*(1 or 1<1+1*(1 or 1<1+1*(1 or 1<1+1*(1 or 1<1+1*1))));");
    }

    private static void tooMany() {
        StringBuilder ten = new StringBuilder();
        for (char name = 'a'; name <= 'j'; name++) {
            ten.append("shot ").append(name).append(" sort 1 long 1;");
        }
        Due.due("ten shots", Due.of(ten.toString()).count(2), 1023);
        fault(ten + "^shot k sort 1 long 1;", 5);
        fault(ten + " \n ^shot", 5);
        StringBuilder six = new StringBuilder();
        for (char name = 'u'; name <= 'z'; name++) {
            six.append("hall ").append(name).append(" keen hates 1;");
        }
        Due.due("six halls", Due.of(six.toString()).count(1), 6);
        fault(six + "^hall", 5);
        fault(six + "^halls", 1);
        Due.due("both", Due.of(six + ten.toString() + "needs a b;").count(0), 10);
    }

    private static void tokens() {
        CountyPrint x = Due.of("shot a sort 1long 5;");
        Due.due("1long are two tokens", x.shot(0, 1), 5);
        fault("hall h plain hates 5^kind;", 1);
        fault("shot a^1 sort 1 long 5;", 1);
        fault("shot a^B sort 1 long 5;", 1);
        fault("shot a sort 1 long ^00005;", 1);
        Due.due("a letter right behind a number", Due.of("hall h plain hates 5and 6or 7;").count(1), 1);
        Due.due("four digits", Due.of("shot a sort 1 long 0005;").shot(0, 1), 5);
        fault("\n\n ^\"", 1);
        fault("hall h plain hates 1 ^> 0;", 1);
        fault("^{", 1);
    }

    private static void allStaysAtAFault() {
        CountyPrint x = Due.of(Counties.HATS);
        x.show();
        x.see(0, true);
        x.mark(2, false);
        Due.due("round", Due.round(x, "show;turn;"), 0);
        Due.due("a faulty county", Due.county(x, A + "hall h plain hates 1;needs a a;"), 3 + 16 * 50);
        Due.due("shots", x.count(0), 5);
        Due.due("halls", x.count(1), 4);
        Due.due("print", x.count(2), 14);
        Due.due("next", x.count(4), 1);
        Due.due("lines", x.count(7), 2);
        Due.due("seen", x.count(8), 1);
        Due.due("undo", x.count(9), 1);
        Due.due("names and laws stay", Due.round(x, "give bap kiss;trade mine chap shrug;"), 0);
        Due.due("law", x.hall(1, 3), 4);
        Due.due("a faulty round", Due.round(x, "show;show;show"), 1 + 16 * 14);
        Due.due("lines", x.count(7), 2);
        Due.due("mark", x.mark(2, true), true);
    }

    private static void aNewCountyBeginsAnew() {
        CountyPrint x = Due.of(Counties.HATS);
        for (int i = 0; i < 5; i++) {
            x.show();
        }
        x.turn();
        x.see(0, true);
        x.mark(0, false);
        Due.round(x, "show;");
        Due.due("the same county again", Due.county(x, Counties.HATS), 0);
        int[] counts = {5, 4, 31, 21, 0, 0, 0, 0, 0, 0, 0};
        for (int what = 0; what < counts.length; what++) {
            Due.due("count(" + what + ")", x.count(what), counts[what]);
        }
        Due.due("the order", x.hall(3, 2), 3);
        Due.due("a drawer", x.hall(0, 1), 0);
        Due.due("undo", x.undo(), false);
        Due.due("mark", x.mark(0, true), false);
        Due.due("an empty county", Due.county(x, "\n"), 0);
        Due.due("shots", x.count(0), 0);
        Due.due("next", x.count(4), -1);
        Due.due("an old name", Due.round(x, "give bap kiss;"), 2 + 16 * 5);
    }

    private static void rightRounds() {
        CountyPrint x = new CountyPrint();
        Due.due("without a county", Due.round(x, "show;turn;show;"), 0);
        Due.due("lines", x.count(7), 3);
        Due.due("can't show", x.judged(0), 0);
        x = Due.of(Counties.HATS);
        Due.due("round", Due.round(x, "give bap kiss;trade bap mine kiss;\nturn\n;show;"), 0);
        Due.due("lines", x.count(7), 4);
        Due.due("another one", Due.round(x, "show;"), 0);
        Due.due("lines", x.count(7), 1);
        Due.due("40 lines", Due.round(x, "show;".repeat(40)), 0);
        Due.due("lines", x.count(7), 40);
        Due.due("41 lines", Due.round(x, "show;".repeat(40) + " turn"), 5 + 16 * 201);
        Due.due("not a line", Due.round(x, "show;".repeat(40) + " hall"), 1 + 16 * 201);
        Due.due("lines stay", x.count(7), 40);
        Due.due("none", Due.round(x, ""), 0);
        Due.due("lines", x.count(7), 0);
    }

    private static void roundFault(String marked, int kind) {
        CountyPrint x = Due.of(Counties.HATS);
        Due.round(x, "turn;");
        int at = marked.indexOf('^');
        Due.due("round of " + marked, Due.round(x, marked.replace("^", "")), kind + 16 * at);
        Due.due("the tape then", x.count(10), 0);
        Due.due("lines stay", x.count(7), 1);
    }

    private static void faultsOfRounds() {
        roundFault("^shown;", 1);
        roundFault("^bap;", 1);
        roundFault("^;", 1);
        roundFault("show^", 1);
        roundFault("show ^bap;", 1);
        roundFault("turn ^turn;", 1);
        roundFault("give ^;", 1);
        roundFault("give ^show kiss;", 1);
        roundFault("give ^nobody kiss;", 2);
        roundFault("give ^kiss kiss;", 2);
        roundFault("give bap ^;", 1);
        roundFault("give bap ^bap;", 2);
        roundFault("give bap ^nothing;", 2);
        roundFault("give bap ^plain;", 1);
        roundFault("give bap kiss ^kiss;", 1);
        roundFault("trade ^hat mine kiss;", 2);
        roundFault("trade bap ^hat kiss;", 2);
        roundFault("trade bap ^nobody kiss;", 2);
        roundFault("trade bap ^bap kiss;", 3);
        roundFault("trade bap ^bap nothing", 3);
        roundFault("trade bap ^not kiss;", 1);
        roundFault("trade bap mine ^bap;", 2);
        roundFault("trade bap mine ^1;", 1);
        roundFault("trade bap mine kiss^", 1);
        roundFault("trade bap mine ^longernames;", 1);
        roundFault("show;show;^shot a sort 1 long 1;", 1);
    }
}
