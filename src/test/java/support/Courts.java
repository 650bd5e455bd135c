/** Courts whose texts are typed already. */
final class Courts {
    private Courts() {
    }

    static TeaLaws of(String leaves, String rules) {
        TeaLaws court = new TeaLaws();
        typeAll(court, 0, leaves);
        typeAll(court, 1, rules);
        return court;
    }

    static void typeAll(TeaLaws court, int text, String signs) {
        for (int i = 0; i < signs.length(); i++) {
            court.type(text, signs.charAt(i));
        }
    }

    static void retype(TeaLaws court, int text, String signs) {
        court.wipe(text);
        typeAll(court, text, signs);
    }
}
