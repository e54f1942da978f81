/** The boundary cases of promises 1 to 4: a new object, the tape, and what is told on it. */
public final class EdgesOfTellingTest {
    private static final String A = "shot a sort 1 long 5;";
    private static final String AB = A + "shot b sort 2 long 3;";
    private static final String KEPT =
        "shot sort long needs hall hates show give trade turn plain keen chapel miner not and or";

    public static void main(String[] args) {
        Edges.run(EdgesOfTellingTest.class);
    }

    private static long bytes(String eight) {
        long all = 0;
        for (int i = 0; i < 8; i++) {
            all = all << 8 | eight.charAt(i);
        }
        return all;
    }

    // ---- Promise 1

    /** Promise 1, "At first: nothing.": nothing can be counted. */
    static void p01AtFirstNothingIsCounted() {
        CountyPrint x = new CountyPrint();
        int[] counts = {0, 0, 0, 0, -1, 0, 0, 0, 0, 0, 0};
        for (int what = 0; what < counts.length; what++) {
            Due.due("count(" + what + ")", x.count(what), counts[what]);
        }
    }

    /** Promise 1, "At first: nothing.": nothing can be shown, given, traded, undone, seen or gone back to. */
    static void p01AtFirstNothingCanBeDone() {
        CountyPrint x = new CountyPrint();
        Due.due("show", x.show(), -1);
        Due.due("give", x.give(0, 0), -1);
        Due.due("trade", x.trade(0, 1, 0), false);
        Due.due("undo", x.undo(), false);
        Due.due("see", x.see(0, true), false);
        for (int mark = 0; mark < 4; mark++) {
            Due.due("mark " + mark, x.mark(mark, true), false);
        }
        Due.due("turn", x.turn(), -1);
    }

    /** Promise 1, "At first: nothing.": what is asked of shots and halls finds none, of the print an empty one. */
    static void p01AtFirstNothingIsAnswered() {
        CountyPrint x = new CountyPrint();
        Due.due("shot", x.shot(0, 0), -2);
        int[] none = {x.hall(0, 0), x.judged(0), x.judged(1), x.shown(0, 0), x.minutes(0), x.silly(), x.gone(0),
            x.kin(0), x.hoard(0), x.where(0), x.taste(0, 1), x.mild(), x.ask(), x.share(0)};
        for (int i = 0; i < none.length; i++) {
            Due.due("none, the " + i + "th", none[i], -1);
        }
        int[] nothing = {x.judged(2), x.lasts(), x.longest(), x.order(-1), x.ride(), x.other(0), x.other(1), x.mends(),
            x.halls(), x.tours(0, 1, 0), x.tours(0, 1, 1), x.tours(0, 1, 2)};
        for (int i = 0; i < nothing.length; i++) {
            Due.due("nothing, the " + i + "th", nothing[i], 0);
        }
        Due.due("order(0)", x.order(0), -2);
        Due.due("saves", Due.saves(x, 0), Due.THROWS);
        Due.due("sense", x.sense(), true);
    }

    /** Promise 1, "Nothing.": a new object has nothing of what was told to another one. */
    static void p01ANewObjectHasNothingOfAnother() {
        CountyPrint x = Edges.busy();
        CountyPrint y = new CountyPrint();
        Due.due("shots of the new one", y.count(0), 0);
        Due.due("county of the new one", Due.county(y, A), 0);
        Due.due("shots of the old one", x.count(0), 5);
        Due.due("seen by the old one", x.count(8), 2);
    }

    /** "The constants: NONE = -1"; looked up, as a compiled test would hold a copy of it. */
    static void p01TheConstantNone() throws ReflectiveOperationException {
        Due.due("NONE", CountyPrint.class.getField("NONE").getInt(null), -1);
    }

    /** "An object is used for at most 512 calls after it has been made": the 512th answers as it is due. */
    static void p01The512thCall() {
        CountyPrint x = new CountyPrint();
        int calls = 0;
        String text = Edges.stretched(Counties.CALM, 96);
        for (int from = 0; from < 96; from += 24) {
            Due.due("feed", x.feed(bytes(text.substring(from, from + 8)), bytes(text.substring(from + 8, from + 16)),
                bytes(text.substring(from + 16, from + 24))), from + 24);
            calls++;
        }
        Due.due("county", x.county(), 0);
        for (calls++; calls < 510; calls++) {
            Due.due("call " + (calls + 1), x.show(), 8);
        }
        Due.due("call 511: next, behind 505 shows", x.count(4), 1);
        Due.due("call 512: tours", x.count(5), 252);
    }

    // ---- Promise 2

    /** Promise 2, "the bytes of a, b, c, of each the highest first". */
    static void p02TheHighestByteFirst() {
        CountyPrint x = new CountyPrint();
        Due.due("feed", x.feed(bytes("shot abc"), bytes(" sort 7 "), bytes("long 42;")), 24);
        Due.due("county", x.county(), 0);
        Due.due("sort", x.shot(0, 0), 7);
        Due.due("long", x.shot(0, 1), 42);
    }

    /** Promise 2, "Up to 24 signs": none, one and 24 come; "how many there are": of the whole TAPE. */
    static void p02NoneOneAndTwentyFour() {
        CountyPrint x = new CountyPrint();
        Due.due("none", x.feed(0, 0, 0), 0);
        Due.due("one", x.feed(0, 0, 'a'), 1);
        Due.due("24 more", x.feed(bytes("abcdefgh"), bytes("ijklmnop"), bytes("qrstuvwx")), 25);
        Due.due("none more", x.feed(0, 0, 0), 25);
        Due.due("24 more", x.feed(bytes("        "), bytes("        "), bytes("        ")), 49);
    }

    /** Promise 2, "others than 10 and 32 .. 126 ... are left out": each byte, at each of the 24 places. */
    static void p02EachByte() {
        for (int sign = 0; sign < 256; sign++) {
            int due = sign == 10 || sign >= 32 && sign <= 126 ? 1 : 0;
            for (int place = 0; place < 8; place++) {
                long bytes = (long) sign << 8 * place;
                Due.due(sign + " in a", new CountyPrint().feed(bytes, 0, 0), due);
                Due.due(sign + " in b", new CountyPrint().feed(0, bytes, 0), due);
                Due.due(sign + " in c", new CountyPrint().feed(0, 0, bytes), due);
            }
        }
    }

    /** Promise 2, "are left out": what stands ahead of and behind such a byte stands together then. */
    static void p02WhatIsLeftOutPartsNothing() {
        CountyPrint x = new CountyPrint();
        x.feed(0x7368006f01740020L, 0x610020e173806f7fL, 0x7274092031206c6fL);
        Due.due("shot a sort 1 lo", x.count(10), 16);
        x.feed(0x6e67203c00000000L, 0, 0);
        Due.due("the place of < is told without them", x.county(), 1 + 16 * 19);
    }

    /** Promise 2 and "The TAPE has at most 1,000 signs": the thousandth comes, what is beyond is left out. */
    static void p02BeyondAThousand() {
        CountyPrint x = new CountyPrint();
        long blanks = bytes("        ");
        for (int i = 1; i <= 41; i++) {
            Due.due("feed " + i, x.feed(blanks, blanks, blanks), 24 * i);
        }
        Due.due("992", x.feed(blanks, 0, 0), 992);
        Due.due("the last eight, and sixteen beyond", x.feed(bytes("       !"), bytes("!!!!!!!!"), blanks), 1000);
        Due.due("when it is full", x.feed(bytes("shot abc"), 0, 0), 1000);
        Due.due("when it is full, nothing", x.feed(0, 0, 0), 1000);
        Due.due("count(10)", x.count(10), 1000);
        Due.due("the only ! is the thousandth sign", x.county(), 1 + 16 * 999);
    }

    /** Promise 2: the part of one call that still has a place comes, the rest of it is left out. */
    static void p02TheThousandthWithinACall() {
        CountyPrint x = new CountyPrint();
        Due.tell(x, " ".repeat(999));
        Due.due("999", x.count(10), 999);
        Due.due("one of 24", x.feed(bytes("!abcdefg"), bytes("abcdefgh"), bytes("abcdefgh")), 1000);
        Due.due("it is the first of them", x.round(), 1 + 16 * 999);
    }

    /** "what reads it takes it: it is empty then": a full tape can be filled again. */
    static void p02AFullTapeIsEmptyWhenItWasRead() {
        CountyPrint x = new CountyPrint();
        Due.tell(x, "!".repeat(1000));
        Due.due("county", x.county(), 1);
        Due.due("feed", x.feed('a', 'b', 0), 2);
        Due.tell(x, " ".repeat(1000));
        Due.due("full again", x.count(10), 1000);
        Due.due("round", x.round(), 1);
        Due.due("feed", x.feed(0, 0, 'a'), 1);
    }

    // ---- Promise 3: the tape and its tokens

    /** Promise 3, "what reads it takes it: it is empty then": without a fault and with one. */
    static void p03TheTapeIsEmptyThen() {
        CountyPrint x = new CountyPrint();
        Due.due("county", Due.county(x, A), 0);
        Due.due("tape", x.count(10), 0);
        Due.due("a fault", Due.county(x, A + "rest"), 1 + 16 * 21);
        Due.due("tape", x.count(10), 0);
        Due.due("an empty tape is a county", x.county(), 0);
        Due.due("of nothing", x.count(0), 0);
    }

    /** "TOKENS, each as long as can be". */
    static void p03TokensAsLongAsCanBe() {
        Edges.countyFault("^shota sort 1 long 5;", 1);
        Edges.countyFault("shot a ^sorts 1 long 5;", 1);
        Edges.countyFault("shot a sort ^12 long 5;", 4);
        Edges.countyFault("shot a sort 1 long 5;needs ^ab a;", 2);
        Due.of("shot ab sort 1 long 5;shot a sort 1 long 5;shot b sort 1 long 5;needs ab a;needs ab b;");
    }

    /** "blanks (10, 32) between where one likes": none where two tokens need none, many, and within no token. */
    static void p03BlanksWhereOneLikes() {
        Due.of("shot a sort1long5;hall h plain hates(1)and not(kind)or 2<3*4+5-6;");
        CountyPrint x = Due.of(" \nshot\n\na \n sort \n 1\nlong\n \n60\n;\n ");
        Due.due("it is told", x.shot(0, 1), 60);
        Edges.countyFault("^sh ot a sort 1 long 5;", 1);
        Edges.countyFault("^s\nhot a sort 1 long 5;", 1);
        Edges.countyFault("shot a sort 1 long 1 ^0;", 1);
        Edges.countyFault("shot a\n^b sort 1 long 10;", 1);
    }

    /** "WORDS (letters a .. z": the signs beside a and z, and great letters, are none. */
    static void p03LettersFromAToZ() {
        Due.of("shot a sort 1 long 5;shot z sort 1 long 5;shot az sort 1 long 5;shot za sort 1 long 5;");
        for (char sign : "`{@AZ[_".toCharArray()) {
            Edges.countyFault("shot ^" + sign + " sort 1 long 5;", 1);
            Edges.countyFault("shot a^" + sign + " sort 1 long 5;", 1);
        }
    }

    /** "WORDS (... 8 at most)", "a longer WORD ... at its first sign": eight letters are a NAME, nine are none. */
    static void p03WordsOfEightLetters() {
        CountyPrint x = Due.of("shot aaaaaaaa sort 1 long 5;shot aaaaaaab sort 1 long 5;shot baaaaaaa sort 1 long 5;"
            + "shot zzzzzzzz sort 1 long 5;shot aaaaaaa sort 1 long 5;");
        Due.due("all are told", x.count(0), 5);
        Edges.countyFault("shot ^aaaaaaaaa sort 1 long 5;", 1);
        Edges.countyFault("shot ^abcdefghijklmnopqrstuvwxyz sort 1 long 5;", 1);
        Edges.countyFault(A + "needs a ^aaaaaaaaa;", 1);
        Edges.countyFault("^shotshots a sort 1 long 5;", 1);
    }

    /** "NUMBERS (1 to 4 digits", "a longer ... NUMBER, too, at its first sign": five digits are none. */
    static void p03NumbersOfOneToFourDigits() {
        CountyPrint x = Due.of("shot a sort 0009 long 0060;shot b sort 00 long 001;hall h plain hates 9999;");
        Due.due("sort", x.shot(0, 0), 9);
        Due.due("long", x.shot(1, 1), 1);
        Edges.countyFault("shot a sort ^00001 long 5;", 1);
        Edges.countyFault("shot a sort 1 long ^00005;", 1);
        Edges.countyFault("hall h plain hates ^10000;", 1);
        Edges.countyFault("hall h plain hates 1+^4294967296;", 1);
    }

    /** "NUMBERS (... digits": the signs beside 0 and 9 are none. */
    static void p03DigitsFrom0To9() {
        Due.due("0", Due.of("shot a sort 0 long 10;").shot(0, 0), 0);
        Due.due("9", Due.of("shot a sort 9 long 19;").shot(0, 1), 19);
        for (char sign : "/:".toCharArray()) {
            Edges.countyFault("shot a sort ^" + sign + " long 5;", 1);
            Edges.countyFault("shot a sort 1 long 5^" + sign + ";", 1);
        }
    }

    /** "(a letter may stand right behind)" a NUMBER, and a digit behind a WORD is a NUMBER of its own. */
    static void p03ALetterRightBehindANumber() {
        CountyPrint x = Due.of("shot a sort 3long 5;hall h plain hates 3and 4or 5;");
        Due.due("sort", x.shot(0, 0), 3);
        Edges.countyFault("shot a sort 3^x long 5;", 1);
        Edges.countyFault("shot a^1 sort 1 long 5;", 1);
        Edges.countyFault("hall h plain hates 3^kind;", 1);
    }

    /** "the signs ( ) < = + - * ;  All else ... is none": of all signs these alone, each where it can stand. */
    static void p03AllElseIsNone() {
        for (char sign = 33; sign <= 126; sign++) {
            boolean isJoint = "<=+-*".indexOf(sign) >= 0;
            int fault = isJoint ? 0 : sign == ';' ? 1 + 16 * 22 : 1 + 16 * 21;
            Due.due("hates 1 " + sign + "2;", Due.county(new CountyPrint(), "hall h plain hates 1 " + sign + "2;"), fault);
        }
        Due.of("hall h plain hates (1);");
    }

    // ---- Promise 3: counties

    /** "COUNTY: any number of" lines: none at all, and all three kinds in any order. */
    static void p03AnyNumberOfLines() {
        Due.due("no line", Due.of("").count(0), 0);
        Due.due("blanks alone", Due.of("\n \n").count(1), 0);
        CountyPrint x = Due.of("hall h plain hates 1;" + AB + "needs a b;hall i keen hates 1;shot c sort 1 long 1;"
            + "needs c a;needs b a;");
        Due.due("shots and halls", x.count(0) * 10 + x.count(1), 32);
    }

    /** "shot: 10 at most", "5 one too many: the words shot of an eleventh", whatever stands behind it. */
    static void p03TenShots() {
        CountyPrint x = Due.of(Edges.shots(10));
        Due.due("ten", x.count(0), 10);
        Due.due("the tenth", x.shot(9, 1), 1);
        Due.due("the film", x.count(2), 1023);
        Edges.countyFault(Edges.shots(10) + "^shot k sort 1 long 1;", 5);
        Edges.countyFault(Edges.shots(10) + " ^shot", 5);
        Edges.countyFault(Edges.shots(10) + "^shot a sort 99 long 99;", 5);
        Edges.countyFault(Edges.shots(10) + Edges.halls(6, "keen hates 1") + "needs a b;^shot k", 5);
    }

    /** "hall: 6 at most", "5 one too many: ... hall of a seventh", whatever stands behind it. */
    static void p03SixHalls() {
        CountyPrint x = Due.of(Edges.halls(6, "keen hates 1"));
        Due.due("six", x.count(1), 6);
        Due.due("the sixth", x.hall(5, 0), 1);
        Edges.countyFault(Edges.halls(6, "keen hates 1") + "^hall a keen hates 1;", 5);
        Edges.countyFault(Edges.halls(6, "keen hates 1") + "\n^hall", 5);
        Edges.countyFault(Edges.halls(6, "keen hates 1") + A + "^hall u king hates ;", 5);
    }

    /** "shot: ... numbered as told: the FILM is all of them in that order"; halls, too, are "numbered as told". */
    static void p03NumberedAsTold() {
        CountyPrint x = Due.of("hall z keen hates 0;shot y sort 7 long 1;hall a miner hates 0;shot b sort 3 long 2;");
        Due.due("the first shot", x.shot(0, 0), 7);
        Due.due("the second shot", x.shot(1, 0), 3);
        Due.due("the first hall", x.hall(0, 0), 1);
        Due.due("the second hall", x.hall(1, 0), 3);
        Due.due("the film", x.shown(0, 0) * 10 + x.shown(0, 1), 1);
    }

    /** "sort 0 to 9", "4 a NUMBER that is not as told". */
    static void p03SortFrom0To9() {
        for (int sort = 0; sort <= 9; sort++) {
            Due.due("sort", Due.of("shot a sort " + sort + " long 5;").shot(0, 0), sort);
        }
        for (int sort : new int[] {10, 11, 99, 100, 9999}) {
            Edges.countyFault("shot a sort ^" + sort + " long 5;", 4);
        }
    }

    /** "long 1 to 60", "4 a NUMBER that is not as told". */
    static void p03LongFrom1To60() {
        for (int minutes = 1; minutes <= 60; minutes++) {
            Due.due("long", Due.of("shot a sort 1 long " + minutes + ";").shot(0, 1), minutes);
        }
        for (String minutes : "0 00 0000 61 62 600 9999".split(" ")) {
            Edges.countyFault("shot a sort 1 long ^" + minutes + ";", 4);
        }
    }

    /** "needs: a SHOT told needs another one told", "2 a NAME of no SHOT (behind needs, its second ...)". */
    static void p03NeedsOfShotsThatAreTold() {
        Edges.countyFault("needs ^a b;", 2);
        Edges.countyFault(A + "needs a ^b;", 2);
        Edges.countyFault(A + "needs ^b a;shot b sort 2 long 3;", 2);
        Edges.countyFault(A + "needs a ^b;shot b sort 2 long 3;", 2);
        Edges.countyFault(A + "hall h plain hates 1;needs ^h a;", 2);
        Edges.countyFault(A + "hall h plain hates 1;needs a ^h;", 2);
        Due.due("told ahead of it", Due.of(AB + "needs a b;").shot(0, 2), 2);
    }

    /** "needs: ... not itself", "3 ... the second one of needs ... that is the first one". */
    static void p03NeedsNotItself() {
        Edges.countyFault(A + "needs a ^a;", 3);
        Edges.countyFault(AB + "needs b ^b;", 3);
    }

    /** "each two once (so)", "3 ... of needs of two told so": the other way round they are not told so. */
    static void p03EachTwoOnceSo() {
        Edges.countyFault(AB + "needs a b;needs a ^b;", 3);
        Edges.countyFault(AB + "needs b a;needs a b;needs b ^a;", 3);
        CountyPrint x = Due.of(AB + "needs a b;needs b a;");
        Due.due("a", x.shot(0, 2), 2);
        Due.due("b", x.shot(1, 2), 1);
        x = Due.of(AB + "shot c sort 1 long 1;needs a b;needs a c;needs b c;");
        Due.due("a needs two", x.shot(0, 2), 6);
        Due.due("b needs one", x.shot(1, 2), 4);
    }

    /** A county's needs are not those of the one told ahead of it, nor of one with a fault. */
    static void p03NeedsOfAnEarlierCountyAreGone() {
        CountyPrint x = Due.of(AB + "needs a b;");
        Due.due("a fault", Due.county(x, AB + "needs b a;needs"), 1 + 16 * 57);
        Due.due("the same two so", Due.county(x, AB + "needs b a;"), 0);
        Due.due("a", x.shot(0, 2), 0);
        Due.due("b", x.shot(1, 2), 1);
    }

    /** A hall's law is not that of one told ahead of it, nor of one with a fault, however many were told. */
    static void p03LawsOfAnEarlierCountyAreGone() {
        CountyPrint x = new CountyPrint();
        for (int time = 0; time < 12; time++) {
            boolean isHated = time / 3 % 2 == 0;
            String law = "1-".repeat(450) + (isHated ? "0;" : "1+449;");
            Due.due("a fault", Due.county(x, AB + "hall h plain hates 1;hall i plain hates 0 or 1;!"), 1 + 16 * 89);
            Due.due("county", Due.county(x, AB + "hall h plain hates " + law), 0);
            Due.due("what it takes out", x.hall(0, 3), isHated ? 3 : 0);
        }
    }

    /** "KIND: plain, keen, chapel, miner": another word "can't stand there". */
    static void p03TheFourKinds() {
        String[] kinds = {"plain", "keen", "chapel", "miner"};
        for (int kind = 0; kind < 4; kind++) {
            Due.due(kinds[kind], Due.of("hall h " + kinds[kind] + " hates 1;").hall(0, 0), kind);
        }
        for (String word : "turn not hates kind minutes h king plai plains 1 ; (".split(" ")) {
            Edges.countyFault("hall h ^" + word + " hates 1;", 1);
        }
    }

    /** "A NAME is another WORD than shot, sort, ... not, and, or": none of these, but the facts are. */
    static void p03ANameIsAnotherWord() {
        for (String word : KEPT.split(" ")) {
            Edges.countyFault("shot ^" + word + " sort 1 long 5;", 1);
            Edges.countyFault("hall ^" + word + " plain hates 1;", 1);
            Edges.countyFault(A + "needs ^" + word + " a;", 1);
            Edges.countyFault(A + "needs a ^" + word + ";", 1);
        }
        CountyPrint x = Due.of("shot kind sort 1 long 5;shot minutes sort 1 long 5;hall place keen hates kind;"
            + "hall ahead keen hates ahead=10;needs kind minutes;shot shots sort 1 long 5;shot no sort 1 long 5;");
        Due.due("facts are names", x.count(0) * 10 + x.count(1), 42);
        Due.due("and facts still", x.hall(1, 3), 1);
    }

    /** "no two (SHOTS, HALLS) are alike", "3 a NAME told already". */
    static void p03NoTwoNamesAreAlike() {
        Edges.countyFault(A + "shot ^a sort 1 long 5;", 3);
        Edges.countyFault(AB + "shot ^b sort 1 long 5;", 3);
        Edges.countyFault("hall h keen hates 1;hall ^h keen hates 1;", 3);
        Edges.countyFault(A + "hall ^a keen hates 1;", 3);
        Edges.countyFault("hall h keen hates 1;shot ^h sort 1 long 1;", 3);
        Due.due("a name of an earlier county", Due.county(Due.of(AB), "shot b sort 1 long 1;hall a keen hates 1;"), 0);
    }

    // ---- Promise 3: laws as they are told

    /** "E: TEST { and TEST or or TEST }": an E is not empty, and behind each joint another part comes. */
    static void p03NoPartIsLeftOut() {
        Edges.countyFault("hall h plain hates ^;", 1);
        Edges.countyFault("hall h plain hates (^);", 1);
        Edges.countyFault("hall h plain hates not ^;", 1);
        for (String joint : "and or < = + - *".split(" ")) {
            Edges.countyFault("hall h plain hates 1 " + joint + " ^;", 1);
            Edges.countyFault("hall h plain hates ^" + joint + " 1;", 1);
            Edges.countyFault("hall h plain hates (1 " + joint + " ^);", 1);
        }
        Edges.countyFault("hall h plain hates 1 ^1;", 1);
        Edges.countyFault("hall h plain hates 1 ^not 1;", 1);
    }

    /** "TEST: SUM, or SUM < SUM, or SUM = SUM": one of these two signs at most in a TEST. */
    static void p03OneComparisonInATest() {
        for (String law : "1<2^<3 1<2^=3 1=2^<3 1=2^=3".split(" ")) {
            Edges.countyFault("hall h plain hates " + law + ";", 1);
        }
        Due.of("hall h plain hates 1<2 and 2=3 or (1<2)<3;");
    }

    /** "( E )": each that is opened is closed, and none other. */
    static void p03WhatIsOpenedIsClosed() {
        Edges.countyFault("hall h plain hates (1^;", 1);
        Edges.countyFault("hall h plain hates ((1)^;", 1);
        Edges.countyFault("hall h plain hates 1^);", 1);
        Edges.countyFault("hall h plain hates (1)^);", 1);
        Edges.countyFault("hall h plain hates (1^", 1);
    }

    /** "no PART lies within 5 of not and ( )", "5 ... not, or a PART, within 5 others": four are none too many. */
    static void p03NoPartWithinFive() {
        Due.of("hall h plain hates not not not not 1;");
        Due.of("hall h plain hates ((((kind))));");
        Due.of("hall h plain hates not(not(1));");
        String[] fives = {"not not not not not ", "(((((", "not(not(not ", "(not(not(", "((((not "};
        for (String five : fives) {
            for (String part : "1 kind minutes place ahead not (".split(" ")) {
                Edges.countyFault("hall h plain hates " + five + "^" + part + " ;", 5);
            }
        }
        for (String joint : "and or < = + - *".split(" ")) {
            Edges.countyFault("hall h plain hates 1 " + joint + " (((((^1)))));", 5);
            Edges.countyFault("hall h plain hates (1 " + joint + " ((((^1)))));", 5);
        }
        Edges.countyFault("hall h plain hates ((((1+(^1)))));", 5);
    }

    /** "within 5 of not and ( )": of those that are closed again, or stand beside it, it lies within none. */
    static void p03BesideIsNotWithin() {
        Due.of("hall h plain hates ((((1))))and((((1))))or not not not not 1<not not not not 1;");
        Due.of("hall h plain hates ((((1)))+1)*(((not 1)));");
        Due.of("hall h plain hates not 1 and not 1 and not 1 and not 1 and not 1 and not 1;");
        Edges.countyFault("hall h plain hates ((((1))))and((((not ^1))));", 5);
    }

    // ---- Promise 3: faults

    /** "kind + 16 * the place (from 0) of a token": the first sign of the text, and behind blanks. */
    static void p03ThePlaceOfAToken() {
        Edges.countyFault("^rest", 1);
        Edges.countyFault(" ^rest", 1);
        Edges.countyFault("\n\n \n^rest", 1);
        Edges.countyFault(AB + "\n^rest", 1);
    }

    /** "the end being one at the text's length": where more must come; blanks at the end count. */
    static void p03TheEndIsAToken() {
        String[] words = "shot a sort 1 long 5 ;needs a b ;hall h plain hates 1".split(" ");
        String text = "shot b sort 1 long 5;";
        for (String word : words) {
            text = text + word;
            if (!word.equals(";")) {
                Edges.countyFault(text + "^", 1);
                Edges.countyFault(text + "\n  ^", 1);
            }
            text = text + " ";
        }
        Edges.countyFault(Edges.stretched("shot ;", 1000).replace(';', ' ') + "^", 1);
    }

    /** A text of 1,000 signs is read to its end; of one of 1,001 the last sign is left out. */
    static void p03ATextOfAThousandSigns() {
        CountyPrint x = Due.of(Edges.stretched(AB, 1000));
        Due.due("shots", x.count(0), 2);
        Due.due("one more", Due.county(x, Edges.stretched(AB, 1001)), 1 + 16 * 1000);
        x = Due.of(A + "hall h plain hates " + "1+".repeat(477) + "1=478;");
        Due.due("the law is so", x.hall(0, 3), 1);
        x = Due.of(A + "hall h plain hates " + "1+".repeat(477) + "1=477;");
        Due.due("the law is not so", x.hall(0, 3), 0);
    }

    /** "of the first token from the left that is wrong": though one behind it is wrong in a lesser way. */
    static void p03TheFirstTokenFromTheLeft() {
        Edges.countyFault("shot a sort ^10 long !;", 4);
        Edges.countyFault(A + "shot ^a sort ! long 5;", 3);
        Edges.countyFault("needs ^a !", 2);
        Edges.countyFault(Edges.shots(10) + "^shot !", 5);
        Edges.countyFault("hall h plain hates (((((^1 1 1", 5);
        Edges.countyFault("shot a sort ^10 long 0;", 4);
    }

    /** "of the first token ... that is wrong the least": a token that is wrong in two ways is told by the lesser. */
    static void p03TheLeastOfOneToken() {
        Edges.countyFault("hall h plain hates (((((^;", 1);
        Edges.countyFault("hall h plain hates not not not not not ^);", 1);
        Edges.countyFault("hall h plain hates (((((^a;", 1);
        Edges.countyFault("hall h plain hates (((((^12345;", 1);
        Edges.countyFault("shot a sort ^99999 long 5;", 1);
        Edges.countyFault(Edges.shots(10) + "^shots k sort 1 long 1;", 1);
    }

    /** "1 it is none, or can't stand there": each token of each line in the place of another one. */
    static void p03WhatCannotStandThere() {
        for (String text : ("^a;^1;^;;^sort;^show;^plain;^not;shot ^1;shot ^;;shot a ^long;shot a ^1;shot a sort ^long;"
            + "shot a sort ^a;shot a sort 1 ^5;shot a sort 1 ^sort;shot a sort 1 long ^a;shot a sort 1 long ^;;"
            + "shot a sort 1 long 5 ^shot;shot a sort 1 long 5 ^6;hall ^1;hall h ^1;hall h ^hates;hall h plain ^1;"
            + "hall h plain ^sort;hall h plain hates ^a;hall h plain hates ^shot;hall h plain hates 1 ^hall")
            .split("(?<=[^^]);")) {
            Edges.countyFault(text + " ", 1);
        }
        Edges.countyFault(AB + "needs ^1 a;", 1);
        Edges.countyFault(AB + "needs a ^;", 1);
        Edges.countyFault(AB + "needs a b ^a;", 1);
    }

    // ---- Promise 3: what a county does

    /** "0, or its FAULT (all stays then)": a fault of each kind, behind lines that are right. */
    static void p03AllStaysAtAFault() {
        CountyPrint x = Edges.busy();
        String ahead = Edges.told(x);
        String told = A + "hall h miner hates 1;";
        String[] texts = {told + "rest;", told + "needs b a;", told + "needs a a;", told + "shot b sort 10 long 5;",
            Edges.shots(10) + "shot k sort 1 long 1;"};
        for (int kind = 1; kind <= 5; kind++) {
            Due.due("its kind", Due.county(x, texts[kind - 1]) % 16, kind);
            Edges.alike("at a fault of the kind " + kind, Edges.told(x), ahead);
            Due.due("what can be undone", x.count(9), 11);
        }
        Due.due("the old names", Due.round(x, "give bap kiss;trade kin chap shrug;"), 0);
        Due.due("not the new ones", Due.round(x, "give h a;"), 2 + 16 * 5);
        Due.due("it can be undone", x.undo(), true);
        for (int mark = 0; mark < 4; mark++) {
            Due.due("the marks are there", x.mark(mark, true), true);
        }
        Edges.alike("gone back to", Edges.told(x), ahead);
    }

    /** "Without a FAULT a COUNTY is the COUNTY from then on": all of the earlier one is gone. */
    static void p03TheCountyFromThenOn() {
        CountyPrint x = Edges.busy();
        Due.due("county", Due.county(x, Counties.CALM), 0);
        Edges.alike("as if it were the first", Edges.told(x), Edges.told(Due.of(Counties.CALM)));
        Due.due("an empty one", Due.county(x, ""), 0);
        Edges.alike("as a new object", Edges.told(x), Edges.told(new CountyPrint()));
    }

    private static CountyPrint toldAgain() {
        CountyPrint x = Edges.busy();
        Due.due("the same county", Due.county(x, Counties.HATS), 0);
        return x;
    }

    /** "the PRINT is the whole FILM, nothing is in a DRAWER". */
    static void p03ThePrintIsTheWholeFilm() {
        CountyPrint x = toldAgain();
        Due.due("print", x.count(2), 31);
        Due.due("drawers", x.count(6), 0);
    }

    /** "the first HALL is next, no tour is over", and the order is as told. */
    static void p03TheFirstHallIsNext() {
        CountyPrint x = toldAgain();
        Due.due("next", x.count(4), 0);
        Due.due("tours", x.count(5), 0);
        for (int hall = 0; hall < 4; hall++) {
            Due.due("place", x.hall(hall, 2), hall);
        }
    }

    /** "no ROUND, nothing SEEN". */
    static void p03NoRoundAndNothingSeen() {
        CountyPrint x = toldAgain();
        Due.due("lines", x.count(7), 0);
        Due.due("minutes of the round", x.judged(2), 0);
        Due.due("seen", x.count(8), 0);
        Due.due("halls", x.halls(), 15);
    }

    /** "nothing can be undone". */
    static void p03NothingCanBeUndone() {
        CountyPrint x = toldAgain();
        Due.due("count", x.count(9), 0);
        Due.due("undo", x.undo(), false);
        Due.due("print", x.count(2), 31);
    }

    /** "no MARK is there". */
    static void p03NoMarkIsThere() {
        CountyPrint x = toldAgain();
        for (int mark = 0; mark < 4; mark++) {
            Due.due("mark " + mark, x.mark(mark, true), false);
        }
        Due.due("print", x.count(2), 31);
    }

    // ---- Promise 4

    /** Promise 4, "what reads it takes it: it is empty then": without a fault and with one. */
    static void p04TheTapeIsEmptyThen() {
        CountyPrint x = Due.of(Counties.HATS);
        Due.due("round", Due.round(x, "show;"), 0);
        Due.due("tape", x.count(10), 0);
        Due.due("a fault", Due.round(x, "show;rest"), 1 + 16 * 5);
        Due.due("tape", x.count(10), 0);
        Due.due("an empty tape is a round", x.round(), 0);
        Due.due("of no lines", x.count(7), 0);
    }

    /** "ROUND: any number of": no line, blanks alone, and each kind of line. */
    static void p04AnyNumberOfLines() {
        CountyPrint x = Due.of(Counties.HATS);
        Due.due("no line", Due.round(x, ""), 0);
        Due.due("blanks alone", Due.round(x, " \n"), 0);
        Due.due("lines", x.count(7), 0);
        Due.due("all kinds", Due.round(x, "turn;trade kin chap shrug;give chap shrug;show;"), 0);
        Due.due("lines", x.count(7), 4);
    }

    /** "40 lines at most", "5 one too many: ... the first word of a 41st line of a ROUND". */
    static void p04FortyLines() {
        CountyPrint x = Due.of(Counties.HATS);
        Due.due("40", Due.round(x, "show;".repeat(39) + "turn;"), 0);
        Due.due("lines", x.count(7), 40);
        for (String word : "show give trade turn".split(" ")) {
            Due.due("41", Due.round(x, "show;".repeat(40) + word), 5 + 16 * 200);
            Due.due("41", Due.round(x, "turn;".repeat(40) + "\n" + word + " !"), 5 + 16 * 201);
        }
        Due.due("40 that are longer", Due.round(x, "trade bap mine hat;".repeat(40)), 0);
        Due.due("lines", x.count(7), 40);
    }

    /** "of the first token ... that is wrong the least": what begins no line is of the kind 1 as the 41st, too. */
    static void p04TheLeastOfTheFortyFirst() {
        for (String word : "bap shot rest 1 ; ! shows abcdefghi".split(" ")) {
            Edges.roundFault("show;".repeat(40) + "^" + word, 1);
        }
    }

    /** "2 a NAME ... of no HALL (behind give, trade, the second of trade) told". */
    static void p04HallsThatAreNotTold() {
        for (String name : "nobody kiss b ba bapp kind".split(" ")) {
            Edges.roundFault("give ^" + name + " kiss;", 2);
            Edges.roundFault("trade ^" + name + " mine kiss;", 2);
            Edges.roundFault("trade bap ^" + name + " kiss;", 2);
        }
    }

    /** "2 a NAME of no SHOT (... the last of give, trade)". */
    static void p04ShotsThatAreNotTold() {
        for (String name : "nothing bap mine k kis kisss kind".split(" ")) {
            Edges.roundFault("give bap ^" + name + ";", 2);
            Edges.roundFault("trade bap mine ^" + name + ";", 2);
        }
    }

    /** "a HALL to another one", "3 ... the second one of ... trade that is the first one". */
    static void p04TradeWithItself() {
        Edges.roundFault("trade bap ^bap kiss;", 3);
        Edges.roundFault("trade chap ^chap nothing!", 3);
        Due.due("another one", Due.round(Due.of(Counties.HATS), "trade chap bap kiss;trade bap chap kiss;"), 0);
    }

    /** "1 it is none, or can't stand there", in each place of a ROUND. */
    static void p04WhatCannotStandThere() {
        for (String word : (KEPT + " 1 ; ( abcdefghi !").split(" ")) {
            boolean isLine = "show give trade turn".contains(word);
            if (!isLine) {
                Edges.roundFault("^" + word + ";", 1);
            }
            Edges.roundFault("give ^" + word + " kiss;", 1);
            Edges.roundFault("give bap ^" + word + ";", 1);
            Edges.roundFault("trade ^" + word + " mine kiss;", 1);
            Edges.roundFault("trade bap ^" + word + " kiss;", 1);
            Edges.roundFault("trade bap mine ^" + word + ";", 1);
            if (!word.equals(";")) {
                Edges.roundFault("show ^" + word + ";", 1);
                Edges.roundFault("turn ^" + word + ";", 1);
                Edges.roundFault("give bap kiss ^" + word + ";", 1);
                Edges.roundFault("trade bap mine kiss ^" + word + ";", 1);
            }
        }
    }

    /** "the end being one at the text's length", in each place of a ROUND. */
    static void p04TheEndIsAToken() {
        for (String text : "show,turn,give,give bap,give bap kiss,trade,trade bap,trade bap mine,trade bap mine kiss"
            .split(",")) {
            Edges.roundFault(text + "^", 1);
            Edges.roundFault("show;" + text + " \n^", 1);
        }
    }

    /** "likewise": all stays at a fault, the ROUND that was told, too. */
    static void p04AllStaysAtAFault() {
        CountyPrint x = Edges.busy();
        String ahead = Edges.told(x);
        String[] texts = {"turn;turn;rest;", "show;give nobody kiss;", "show;trade bap bap kiss;", null,
            "turn;".repeat(40) + "turn;"};
        for (int kind = 1; kind <= 5; kind++) {
            if (texts[kind - 1] != null) {
                Due.due("its kind", Due.round(x, texts[kind - 1]) % 16, kind);
                Edges.alike("at a fault of the kind " + kind, Edges.told(x), ahead);
            }
        }
    }

    /** "A ROUND is the ROUND": it takes the earlier one's place, and changes nothing else. */
    static void p04ARoundIsTheRound() {
        CountyPrint x = Edges.busy();
        Due.due("lines", x.count(7), 4);
        int[] ahead = new int[10];
        for (int what = 0; what < 10; what++) {
            ahead[what] = x.count(what);
        }
        Due.due("round", Due.round(x, "show;"), 0);
        Due.due("minutes of it", x.judged(2), 14);
        for (int what = 0; what < 10; what++) {
            Due.due("count(" + what + ")", x.count(what), what == 7 ? 1 : ahead[what]);
        }
        Due.due("another one", Due.round(x, "turn;turn;"), 0);
        Due.due("lines", x.count(7), 2);
        Due.due("nothing shown", x.judged(2), 0);
        Due.due("it can be undone", x.undo(), true);
        Due.due("the round is not undone", x.count(7), 2);
        Due.due("a mark is there", x.mark(3, true), true);
    }

    /** Without a county a ROUND may have the lines that name nothing; "2 a NAME of no SHOT ... of no HALL". */
    static void p04ARoundWithoutACounty() {
        CountyPrint x = new CountyPrint();
        Due.due("show and turn", Due.round(x, "show;turn;"), 0);
        Due.due("lines", x.count(7), 2);
        Due.due("give", Due.round(x, "give a b;"), 2 + 16 * 5);
        Due.due("trade", Due.round(x, "trade a b c;"), 2 + 16 * 6);
        Due.due("no hall", Due.round(Due.of(A), "give h a;"), 2 + 16 * 5);
        Due.due("no shot", Due.round(Due.of("hall h keen hates 1;"), "give h a;"), 2 + 16 * 7);
    }

    /** NAMES of an earlier COUNTY are told no more: "a NAME of no SHOT ... told". */
    static void p04NamesOfAnEarlierCounty() {
        CountyPrint x = Due.of(Counties.HATS);
        for (int time = 0; time < 3; time++) {
            Due.due("county", Due.county(x, "shot hat sort 1 long 1;hall chap keen hates 1;"), 0);
            for (String gone : "bap mine kin".split(" ")) {
                Due.due("the hall is gone", Due.round(x, "give " + gone + " hat;"), 2 + 16 * 5);
            }
            for (String gone : "kiss work horse shrug".split(" ")) {
                Due.due("the shot is gone", Due.round(x, "give chap " + gone + ";"), 2 + 16 * 10);
            }
            Due.due("the new ones", Due.round(x, "give chap hat;"), 0);
        }
    }
}
