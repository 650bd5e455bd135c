/** Courts whose texts are typed already. */
final class Courts {
    static final String TWELVE_LEAVES = "a1s;b1d;c1r;d1s;e1d;f1r;a6s;b6d;c6r;d6s;e6d;f6r";
    static final String TEN_RULES = "sns+A;dnd-B;rnr+C;sod-D;dor+E;rod-F;sfd+G;dfr-H;rbs+A;sbd-C";

    private Courts() {
    }

    static TeaLaws of(String leaves, String rules) {
        TeaLaws court = new TeaLaws();
        typeAll(court, 0, leaves);
        typeAll(court, 1, rules);
        return court;
    }

    /** Of its LAWS just the first one is in force by no TURNS, just the second one by one, and so on. */
    static TeaLaws compass() {
        return of("a1s;a2d;b1r", "sod+A;sor+B;dos+C;ros+D");
    }

    static void typeAll(TeaLaws court, int text, String signs) {
        for (int i = 0; i < signs.length(); i++) {
            court.type(text, signs.charAt(i));
        }
    }

    static void retype(TeaLaws court, int text, String signs) {
        court.wipe(text);
        typeAll(court, text, signs);
    }

    static void layAll(TeaLaws court, int s, int form, int... items) {
        court.sheet(s, form, items.length);
        for (int i = 0; i < items.length; i++) {
            court.lay(s, form, i, items[i]);
        }
    }
}
