/** Counties that several tests use. */
final class Counties {
    /** kiss 5, hat 3, work 7, horse 4, shrug 2 minutes: 21 in all. */
    static final String HATS = "shot kiss sort 1 long 5;shot hat sort 2 long 3;shot work sort 3 long 7;"
        + "shot horse sort 4 long 4;shot shrug sort 1 long 2;needs work kiss;needs shrug horse;"
        + "hall bap plain hates kind=1;hall mine miner hates kind=3 or kind=1;"
        + "hall kin keen hates 3<minutes;hall chap chapel hates kind=2;";

    /** Two halls that hate nothing. */
    static final String CALM = "shot a sort 1 long 5;shot b sort 2 long 3;hall h plain hates 0;hall i keen hates 0;";

    private Counties() {
    }
}
