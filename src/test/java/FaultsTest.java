/**
 * A FAULT in a text: "the place (from 0) of the first byte of the first TOKEN that can't stand there (a NUMBER that may
 * not be, another WORD, a byte that begins no TOKEN, the name of a KIND for a 7th, pilgrim for a 9th: its own), or how
 * many bytes there are if it ends too early"; and "nothing changes but that THE TAPE is empty; no finding".
 */
public final class FaultsTest {
    // Two CALENDARS and a PILGRIM, days, jugs, a sheet and an image; a fault changes none of it.
    private static final String THERE = "calendar 3 | set 0 1 9 | calendar 0 | pilgrim 40 0 | law 0 20 | days 20 | law 1 1 "
        + "| sheet 1 16 2 | write 1 1 300 | image | mind 0 0 50 | calendar 9";

    // What may stand behind each beginning of a text (with two CALENDARS there): least and most of a NUMBER, words, signs;
    // END where the text may end.
    private static final String[][] BEHIND = {
        {"", "count old new cog leap monk pilgrim truth power"},
        {"count", "begin length left reform ; END"},
        {"old", "begin length left reform ; END"},
        {"new", "begin length left reform ; END"},
        {"cog", "begin length left reform ; END"},
        {"leap", "begin length left reform ; END"},
        {"monk", "begin length left reform ; END"},
        {"count begin", "0..99"},
        {"count begin 99", "length left reform ; END"},
        {"count length", "1..60"},
        {"count length 60", "left reform ; END"},
        {"count begin 5 length 60", "left reform ; END"},
        {"count left", "0..99"},
        {"count left 99", "reform ; END"},
        {"count begin 5 left 99", "reform ; END"},
        {"count length 5 left 99", "reform ; END"},
        {"count reform", "0..9999"},
        {"count reform 9999", "; END"},
        {"count begin 5 reform 9999", "; END"},
        {"count length 5 reform 9999", "; END"},
        {"count begin 0 length 1 left 0 reform 0", "; END"},
        {"pilgrim", "0..99"},
        {"pilgrim 99", "trusts ; END"},
        {"pilgrim 0 trusts", "0..1"},
        {"count; pilgrim 0 trusts", "0..2"},
        {"pilgrim 0 trusts 1", "; END"},
        {"truth", "0..5"},
        {"truth 5", "; END"},
        {"power", "1..50"},
        {"power 50", "; END"},
        {"power 50;", "count old new cog leap monk pilgrim truth power"},
        {"count;", "count old new cog leap monk pilgrim truth power"},
        {"pilgrim 5;", "count old new cog leap monk pilgrim truth power"},
        {"truth 0;", "count old new cog leap monk pilgrim truth power"},
    };
    private static final String[] WORDS = {"count", "old", "new", "cog", "leap", "monk", "begin", "length", "left", "reform",
        "pilgrim", "trusts", "truth", "power", "x", "counts", "coun", "truths", "pilgrims", "trust", "end", "zzz"};
    private static final int[] NUMBERS = {0, 1, 2, 3, 5, 6, 49, 50, 51, 59, 60, 61, 98, 99, 100, 101, 9998, 9999, 10000, 99999};
    private static final String[] WRONG_BYTES = {"$", "A", "Z", "@", "[", "`", "{", "/", ":", "<", ".", ",", "-", "+", "_",
        "\0", "\t", "\n", "\r", "\u007f", "\u0080", "\u00a0", "\u00b5", "\u00ff"};

    public static void main(String[] args) {
        everythingBehindEverything();
        everyEndOfAText();
        aSeventhCalendar();
        aNinthPilgrim();
        theFirstOfSeveral();
        placesBehindBlanks();
        trustsByThen();
        nothingOfManyItems();
        Checks.end();
    }

    private static void fault(String text, int place) {
        faultWith(THERE, text, place);
    }

    private static void faultWith(String before, String text, int place) {
        String told = text.isEmpty() ? before : before + " | tell " + text;
        Told.unchanged("31", told, before, "spring", -1 - place);
    }

    private static void stands(String text, int items) {
        Checks.due("31: " + text, new Told(THERE + " | tell " + text).ask("spring"), items);
    }

    private static void everythingBehindEverything() {
        for (String[] row : BEHIND) {
            for (String word : WORDS) {
                behind(row, word, isAmong(row[1], word));
            }
            for (int number : NUMBERS) {
                behind(row, String.valueOf(number), isNumberOf(row[1], number));
            }
            for (String wrong : WRONG_BYTES) {
                behind(row, wrong, false);
            }
            behind(row, ";", isAmong(row[1], ";"));
            ending(row);
        }
    }

    /** One token behind a beginning, with a blank between and, where two tokens stay two, without one. */
    private static void behind(String[] row, String token, boolean may) {
        String begun = row[0];
        behind(begun + " " + token, begun.length() + 1, row[0], token, may);
        boolean runsOn = !begun.isEmpty() && (areBoth("[a-z]", begun, token) || areBoth("[0-9]", begun, token));
        if (!runsOn) {
            behind(begun + token, begun.length(), row[0], token, may);
        }
    }

    private static void behind(String text, int place, String begun, String token, boolean may) {
        if (!may) {
            fault(text, place);
            fault(text + " ", place);
            fault(text + "$", place);
        } else if (mayEnd(begun, token)) {
            stands(text, items(text));
        } else {
            fault(text, text.length());
            fault(text + "  ", text.length() + 2);
        }
    }

    private static boolean areBoth(String sort, String ahead, String behind) {
        return ahead.substring(ahead.length() - 1).matches(sort) && behind.substring(0, 1).matches(sort);
    }

    /** Whether a text may end behind a token that may stand where it does. */
    private static boolean mayEnd(String begun, String token) {
        boolean startsItem = begun.isEmpty() || begun.endsWith(";");
        return token.matches("[0-9]+") || startsItem && isAmong("count old new cog leap monk", token);
    }

    private static int items(String text) {
        return text.split(";").length;
    }

    private static boolean isAmong(String all, String one) {
        for (String word : all.split(" ")) {
            if (word.equals(one)) {
                return true;
            }
        }
        return false;
    }

    private static boolean isNumberOf(String all, int number) {
        int dots = all.indexOf("..");
        return dots >= 0 && number >= Integer.parseInt(all.substring(0, dots))
            && number <= Integer.parseInt(all.substring(dots + 2));
    }

    private static void ending(String[] row) {
        if (isAmong(row[1], "END")) {
            stands(row[0], items(row[0]));
            stands("  " + row[0] + "  ", items(row[0]));
        } else {
            fault(row[0], row[0].length());
            fault(row[0] + "   ", row[0].length() + 3);
        }
    }

    /** "or how many bytes there are if it ends too early": each text that is cut short. */
    private static void everyEndOfAText() {
        String text = "monk begin 5 length 6 left 7 reform 8;pilgrim 9 trusts 2;truth 3;power 4";
        boolean[] whole = new boolean[text.length() + 1];
        for (String end : new String[] {"monk", "5", "6", "7", "8", "9", "2", "3", "4"}) {
            whole[text.indexOf(end) + end.length()] = true;
        }
        for (int n = 0; n <= text.length(); n++) {
            String cut = text.substring(0, n);
            String trimmed = cut.stripTrailing();
            if (whole[trimmed.length()]) {
                stands(cut, items(cut));
            } else {
                fault(cut, isInWord(text, n) ? lastWord(cut) : n);
            }
        }
    }

    /** A word that is cut short is another word, and can't stand there. */
    private static boolean isInWord(String text, int n) {
        return n > 0 && n < text.length() && areBoth("[a-z]", text.substring(0, n), text.substring(n));
    }

    private static int lastWord(String cut) {
        return Math.max(cut.lastIndexOf(' '), cut.lastIndexOf(';')) + 1;
    }

    /** "the name of a KIND for a 7th". */
    private static void aSeventhCalendar() {
        String[] kinds = {"count", "old", "new", "cog", "leap", "monk"};
        for (String kind : kinds) {
            for (int there = 0; there <= 6; there++) {
                StringBuilder text = new StringBuilder("power 5");
                for (int c = there; c < 6; c++) {
                    text.append("; ").append(kind);
                }
                String before = there == 0 ? "law 0 9" : there + " calendar 2";
                Checks.due("31: up to the 6th by " + text, new Told(before + " | tell " + text).ask("spring"), 7 - there);
                faultWith(before, text + "; " + kind, text.length() + 2);
                faultWith(before, text + ";" + kind + " begin 5", text.length() + 1);
                faultWith(before, text + ";" + kind + " begin 100;$", text.length() + 1);
            }
        }
        Told.table("31: 5 calendar 2 | tell cog;pilgrim 5 trusts 5;truth 5 => spring = 3");
    }

    /** "pilgrim for a 9th". */
    private static void aNinthPilgrim() {
        for (int there = 0; there <= 8; there++) {
            StringBuilder text = new StringBuilder("truth 5");
            for (int p = there; p < 8; p++) {
                text.append(";pilgrim 9");
            }
            String before = there == 0 ? "law 0 9" : there + " pilgrim 5 -1";
            Checks.due("31: up to the 8th by " + text, new Told(before + " | tell " + text).ask("spring"), 9 - there);
            faultWith(before, text + ";pilgrim 9", text.length() + 1);
            faultWith(before, text + "; pilgrim", text.length() + 2);
            faultWith(before, text + ";  pilgrim $", text.length() + 3);
        }
    }

    /** "of the first TOKEN that can't stand there". */
    private static void theFirstOfSeveral() {
        fault("power 51;truth 6", 6);
        fault("power 50;truth 6;power 51", 15);
        fault("$ $", 0);
        fault("count $ begin 100", 6);
        fault("count begin 100 $", 12);
        fault("x;y;z", 0);
        fault("count;x;y", 6);
        fault("count;;", 6);
        fault("pilgrim 100 trusts 9", 8);
        fault("pilgrim 5 trusts 9 $", 17);
        fault("old length 0 left 100", 11);
        fault("old length 61 left 100", 11);
        fault("power 0", 6);
        fault("power power", 6);
        fault("power ;", 6);
        fault("power;", 5);
    }

    /** "the place (from 0)": blanks are bytes, too. */
    private static void placesBehindBlanks() {
        for (int blanks = 0; blanks <= 55; blanks++) {
            String some = " ".repeat(blanks);
            fault(some + "$", blanks);
            fault(some, blanks);
            fault(some + ";", blanks);
            fault(some + "5", blanks);
            fault("power" + some + "99", 5 + blanks);
            fault("power 9" + some + ";", 8 + blanks);
            fault("power 9" + some + ";" + some + "x", 8 + 2 * blanks);
            stands(some + "power" + some + "9", 1);
        }
    }

    /** "trusts and a NUMBER (a CALENDAR there by then)". */
    private static void trustsByThen() {
        faultWith("law 0 9", "pilgrim 5 trusts 0;count", 17);
        faultWith("law 0 9", "count;pilgrim 5 trusts 1;count", 23);
        Told.table("""
            31: tell count;pilgrim 5 trusts 0 => spring = 2
            31: tell count;old;pilgrim 5 trusts 1 => spring = 3
            31: tell count;old;pilgrim 5 trusts 1 | spring => about 0 1 = 1
            31: calendar 0 | tell old;pilgrim 5 trusts 1 => spring = 2
            31: calendar 0 | tell pilgrim 5 trusts 0 => spring = 1
            31: calendar 0 | tell pilgrim 5 | spring => about 0 1 = -1
            31: tell truth 5 => spring = 1
            31: tell truth 5 | spring => now 2 = 5
            31: 6 calendar 0 | tell pilgrim 5 trusts 5 => spring = 1
            """);
        faultWith("6 calendar 0", "pilgrim 5 trusts 6", 17);
    }

    /** "nothing changes but that THE TAPE is empty": neither do the items ahead of the fault come. */
    private static void nothingOfManyItems() {
        String items = "leap begin 1 length 2 left 3 reform 4;pilgrim 5 trusts 2;truth 2;power 1";
        stands(items, 4);
        fault(items + ";", items.length() + 1);
        fault(items + " 1", items.length() + 1);
        fault(items + ";truth 6", items.length() + 7);
        fault(items + "x", items.length());
        Told.table("31: " + THERE + " | tell " + items + ";x | spring | tell power 3 => spring = 1\n"
            + "31: " + THERE + " | tell " + items + ";x | spring | tell leap => spring = 1\n"
            + "31: " + THERE + " | tell " + items + ";x | spring | tell leap | spring => of 2 1 = 0\n"
            + "31: " + THERE + " | tell " + items + ";x | spring => count 0 = 2\n"
            + "31: " + THERE + " | tell " + items + ";x | spring => count 1 = 0\n"
            + "31: " + THERE + " | tell " + items + ";x | spring => undo = 2");
    }
}
