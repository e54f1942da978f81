/** What the tests share: telling a text to an object, and comparing answers. */
final class Due {
    static final int THROWS = -1000;

    private static int wrong = 0;
    private static int asked = 0;

    private Due() {
    }

    static void due(String call, long got, long want) {
        asked++;
        if (got != want) {
            wrong++;
            System.out.println(call + " answered " + got + ", due is " + want);
        }
    }

    static void due(String call, boolean got, boolean want) {
        due(call, got ? 1 : 0, want ? 1 : 0);
    }

    static int wrong() {
        return wrong;
    }

    static void end() {
        System.out.println(asked + " answers, " + wrong + " not as due");
        if (wrong != 0) {
            System.exit(1);
        }
    }

    static void tell(CountyPrint x, String text) {
        for (int from = 0; from < text.length(); from += 24) {
            long[] parts = new long[3];
            for (int i = 0; i < 24; i++) {
                char sign = from + i < text.length() ? text.charAt(from + i) : 0;
                parts[i / 8] = parts[i / 8] << 8 | sign & 255;
            }
            x.feed(parts[0], parts[1], parts[2]);
        }
    }

    static int county(CountyPrint x, String text) {
        tell(x, text);
        return x.county();
    }

    static int round(CountyPrint x, String text) {
        tell(x, text);
        return x.round();
    }

    static CountyPrint of(String county) {
        CountyPrint x = new CountyPrint();
        due("county of " + county, county(x, county), 0);
        return x;
    }

    static int saves(CountyPrint x, int hall) {
        try {
            return x.saves(hall);
        } catch (java.util.NoSuchElementException e) {
            return THROWS;
        }
    }

    static int rests(CountyPrint x, int high, int low, int alone, int what) {
        try {
            return x.rests(high, low, alone, what);
        } catch (java.util.NoSuchElementException e) {
            return THROWS;
        }
    }
}
