/** The sentences under "Texts". */
final class TextSentences {
    private TextSentences() {
    }

    static void tell(Sentences sentences) {
        sentences.plain("Terms", "Texts.");
        sentences.of("Terms", "A text of arrivals consists of one or more arrivals with \",\" between them: \"d\" or \"u\" "
                + "for down or up, the size, \"t\" and the draught, and possibly \"r\" and the rank, which is 0 "
                + "otherwise.", TextSentences::arrivals);
        sentences.of("Terms", "Sizes and ranks are one digit; draughts have 1 or 2 digits that do not begin with 0.",
                TextSentences::digits);
        sentences.of("Terms", "A size of 0, a draught of 0 and a rank above 3 are faults.", TextSentences::faults);
        sentences.of("Terms", "The fault position of a text is the index of its first character that cannot continue such "
                + "a text, or the length of the text if it ends too early.", TextSentences::faultPosition);
    }

    /** What the text makes: the size, draught, rank and direction of each ship, or the fault position behind "!". */
    private static String read(String text) {
        LockMaster canal = Canals.plenty(2, 9);
        Check.type(canal, text);
        if (Check.answer(canal::arrive).equals("!IllegalArgumentException")) {
            return "!" + canal.faultPosition();
        }
        StringBuilder ships = new StringBuilder();
        for (int s = 0; s < canal.account(1); s++) {
            ships.append(s == 0 ? "" : ", ").append(canal.ship(s, 0)).append(' ').append(canal.ship(s, 1)).append(' ')
                    .append(canal.ship(s, 2)).append(' ').append(canal.ship(s, 3) == 1 ? "up" : "down");
        }
        return ships.toString();
    }

    private static void due(Check check, String... textsAndAnswers) {
        for (int i = 0; i < textsAndAnswers.length; i += 2) {
            check.same("the text \"" + textsAndAnswers[i] + "\"", read(textsAndAnswers[i]), textsAndAnswers[i + 1]);
        }
    }

    private static void arrivals(Check check) {
        due(check, "d2t3", "2 3 0 down", "u2t3", "2 3 0 up", "d2t3r1", "2 3 1 down", "u2t34r2", "2 34 2 up",
                "d2t3,u4t56r3,d7t8r0,u9t10", "2 3 0 down, 4 56 3 up, 7 8 0 down, 9 10 0 up",
                "d2t3r3,d4t5", "2 3 3 down, 4 5 0 down", "", "!0", ",", "!0", "d2t3,", "!5", ",d2t3", "!0",
                "d2t3,,d2t3", "!5", "d2t3;d2t3", "!4", "d2t3 ", "!4", " d2t3", "!0", "D2t3", "!0", "U2t3", "!0", "d2T3", "!2",
                "d2t3R1", "!4", "x2t3", "!0", "2t3", "!0", "dt3", "!1", "d23", "!2", "d2t", "!3", "d2tr1", "!3", "d2r1", "!2",
                "d2t3r", "!5", "d2t3r1r1", "!6", "d2t3t3", "!4", "du2t3", "!1", "d2t3d2t3", "!4", "d2t3r1d2t3", "!6");
        StringBuilder ten = new StringBuilder("d1t1");
        StringBuilder due = new StringBuilder("1 1 0 down");
        for (int i = 1; i < 10; i++) {
            ten.append(",d1t1");
            due.append(", 1 1 0 down");
        }
        due(check, ten.toString(), due.toString());
    }

    private static void digits(Check check) {
        due(check, "d1t1", "1 1 0 down", "d9t9", "9 9 0 down", "d10t1", "!2", "d12t1", "!2", "d99t1", "!2", "d01t1", "!1",
                "d-1t1", "!1", "d+1t1", "!1", "d1t10", "1 10 0 down", "d1t99r3", "1 99 3 down", "d1t100", "!5", "d1t123", "!5",
                "d1t999r1", "!5", "d1t01", "!3", "d1t09", "!3", "d1t00", "!3", "d1t-1", "!3", "d1t1r0", "1 1 0 down",
                "d1t1r3", "1 1 3 down", "d1t1r00", "!6", "d1t1r10", "!6", "d1t1r33", "!6", "d1t1r-1", "!5", "d1t1r+1", "!5",
                "d1t/", "!3", "d1t:", "!3", "d1t1/", "!4", "d1t1:", "!4", "d/t1", "!1", "d:t1", "!1", "d1t1r/", "!5", "d1t1r:", "!5",
                "d" + (char) 0x661 + "t1", "!1", "d1t" + (char) 0xff11, "!3", "d1t1r" + (char) 0x131, "!5",
                (char) 0x164 + "1t1", "!0", "d1" + (char) 0x174 + "1", "!2", "d1t1" + (char) 0x12c + "d1t1", "!4");
    }

    private static void faults(Check check) {
        due(check, "d0t1", "!1", "u0t1", "!1", "d1t0", "!3", "d1t0,d1t1", "!3", "d1t1r4", "!5", "d1t1r5", "!5", "d1t1r9", "!5",
                "d1t10r4", "!6", "d1t1,d0t1", "!6", "d1t1,d1t0", "!8", "d1t1,d1t1r4", "!10", "d1t1r3,d1t1r4", "!12");
    }

    private static void faultPosition(Check check) {
        due(check, "", "!0", "d", "!1", "d1", "!2", "d1t", "!3", "d1t1r", "!5", "d1t12r", "!6", "d1t1,", "!5", "d1t1,u", "!6",
                "d1t1,u2", "!7", "d1t1,u2t", "!8", "d1t1,u2t3r", "!10", "d1t1,u2t3r1,", "!12", "x", "!0", "dx", "!1", "d1x", "!2",
                "d1tx", "!3", "d1t1x", "!4", "d1t12x", "!5", "d1t1rx", "!5", "d1t1r1x", "!6", "d1t1,x", "!5",
                "xxxx", "!0", "dxd1t1", "!1", "d1t1,d1t1,d0t0", "!11", "d1tx0r9", "!3");
        StringBuilder fifty = new StringBuilder();
        for (int i = 0; i < 10; i++) {
            fifty.append("d1t1,");
        }
        due(check, fifty.toString(), "!50", fifty.substring(0, 49) + "x", "!49", fifty.substring(0, 48) + "x", "!48");
    }
}
