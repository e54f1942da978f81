/** Promises 1 and 2: a new object, and what comes on the tape. */
public final class TapeTest {
    public static void main(String[] args) {
        aNewObject();
        signsOfEachNumber();
        signsLeftOut();
        fullTape();
        Due.due("NONE", CountyPrint.NONE, -1);
        Due.end();
    }

    private static void aNewObject() {
        CountyPrint x = new CountyPrint();
        int[] counts = {0, 0, 0, 0, -1, 0, 0, 0, 0, 0, 0};
        for (int what = 0; what < counts.length; what++) {
            Due.due("count(" + what + ") of a new one", x.count(what), counts[what]);
        }
        Due.due("undo of a new one", x.undo(), false);
        Due.due("sense of a new one", x.sense(), true);
        Due.due("lasts of a new one", x.lasts(), 0);
        Due.due("ride of a new one", x.ride(), 0);
        Due.due("mark of a new one", x.mark(0, true), false);
        Due.due("judged", x.judged(0), -1);
        Due.due("judged", x.judged(1), -1);
        Due.due("judged", x.judged(2), 0);
        Due.due("county of nothing", x.county(), 0);
        Due.due("round of nothing", x.round(), 0);
    }

    private static long bytes(String eight) {
        long all = 0;
        for (int i = 0; i < 8; i++) {
            all = all << 8 | eight.charAt(i);
        }
        return all;
    }

    private static void signsOfEachNumber() {
        CountyPrint x = new CountyPrint();
        Due.due("feed", x.feed(bytes("shot abc"), bytes(" sort 7 "), bytes("long 42;")), 24);
        Due.due("count(10)", x.count(10), 24);
        Due.due("county", x.county(), 0);
        Due.due("count(10)", x.count(10), 0);
        Due.due("sort", x.shot(0, 0), 7);
        Due.due("long", x.shot(0, 1), 42);
    }

    private static void signsLeftOut() {
        CountyPrint x = new CountyPrint();
        Due.due("feed of none", x.feed(0, 0, 0), 0);
        Due.due("feed of 0 to 7", x.feed(0x0001020304050607L, 0, 0), 0);
        Due.due("feed of 8 to 15", x.feed(0, 0x08090a0b0c0d0e0fL, 0), 1);
        Due.due("feed of 30 to 37", x.feed(0, 0, 0x1e1f202122232425L), 7);
        Due.due("feed of 121 to 128", x.feed(0x797a7b7c7d7e7f80L, 0, 0), 13);
        Due.due("feed of 248 to 255", x.feed(-1L, 0xf8f9fafbfcfdfeffL, 0), 13);
        Due.due("what came: a line's end, a blank, !", x.county(), 1 + 16 * 2);
        x.feed(bytes("shot abc"), 0x0073006f00720074L, bytes(" 7 long ") );
        Due.due("the signs left out part nothing", x.feed(0x01390200003b0000L, 0, 0), 22);
        Due.due("shot abcsort", x.county(), 1 + 16 * 13);
    }

    private static void fullTape() {
        CountyPrint x = new CountyPrint();
        long blanks = bytes("        ");
        for (int i = 1; i <= 41; i++) {
            Due.due("feed " + i, x.feed(blanks, blanks, blanks), 24 * i);
        }
        Due.due("the thousandth", x.feed(blanks, bytes("       !"), bytes("!;;;;;;;")), 1000);
        Due.due("beyond", x.feed(bytes("abcdefgh"), 0, 0), 1000);
        Due.due("count(10)", x.count(10), 1000);
        Due.due("the first ! is the 1000th sign", x.county(), 1 + 16 * 999);
        Due.due("empty then", x.count(10), 0);
        Due.due("a new text", x.feed(bytes("shot abc"), 0, 0), 8);
        Due.due("round takes it, too", x.round(), 1);
        Due.due("empty then", x.count(10), 0);
    }
}
