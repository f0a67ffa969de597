import java.util.function.ToLongFunction;

/** The boundary cases of texts: promises 1 to 5, and what a PLANT is. */
public final class TextBoundaryTests extends Boundaries {
    private static final String FULL_PAGE = LONGEST.substring(0, 45) + "x";

    public static void main(String[] args) throws Exception {
        runAll(TextBoundaryTests.class, 0, 1, 2, 3, 4, 5);
    }

    /** An object with all that a refused call could change. */
    private static RestGains busy(String page) {
        RestGains x = planted(THREE, 5, -3, 2);
        x.limit(3);
        x.tick(-4);
        return write(x, page);
    }

    private static long fault(String page) {
        return written(page).fault();
    }

    // ---- an object's calls

    @Says(promise = 0, words = "An object is used for at most 512 calls after it has been made")
    private static void theLastCallReadsAPlant() {
        RestGains x = new RestGains();
        for (int call = 1; call <= 504; call++) {
            x.count(call);
        }
        write(x, "1;2;1;1");
        due("plant() as call 512", x.plant(), 1);
    }

    @Says(promise = 0, words = "An object is used for at most 512 calls after it has been made")
    private static void theLastCallCountsPlants() {
        RestGains x = new RestGains();
        for (int plant = 1; plant <= 63; plant++) {
            write(x, "1;2;1;1");
            due("plant() as call " + 8 * plant, x.plant(), 1);
        }
        for (int call = 505; call <= 511; call++) {
            x.tick(0);
        }
        due("count(3) as call 512", x.count(3), 63);
    }

    @Says(promise = 0, words = "An object is used for at most 512 calls after it has been made")
    private static void theLastCallCountsTicks() {
        RestGains x = written("1;1;1;1");
        x.plant();
        for (int call = 9; call <= 511; call++) {
            due("tick(1) as call " + call, x.tick(1), call - 8);
        }
        due("count(4) as call 512", x.count(4), 503);
    }

    @Says(promise = 0, words = "An object is used for at most 512 calls after it has been made")
    private static void theLastCallsAreDigestAndPlan() {
        RestGains x = written(SHIFT);
        x.plant();
        x.start(0, 3);
        x.start(1, -1);
        for (int call = SHIFT.length() + 4; call <= 510; call++) {
            x.start(0, call % 2 == 0 ? 3 : 12);
        }
        due("digest() as call 511", x.digest(), planted(SHIFT, 3, -1).digest());
        due("plan(11) as call 512", x.plan(11), 2);
    }

    // ---- no plant

    private static void eachCallWithoutAPlant(RestGains x, int letters) {
        for (int what = -1; what <= 15; what++) {
            due("has(" + what + ")", x.has(what), UNKNOWN);
            due("alter(" + what + ", 0)", x.alter(what, 0), UNKNOWN);
        }
        for (int place = -1; place <= 3; place++) {
            due("start(" + place + ", 0)", x.start(place, 0), UNKNOWN);
            due("row(false, " + place + ", 0)", x.row(false, place, 0), UNKNOWN);
            due("row(true, 0, " + place + ")", x.row(true, 0, place), UNKNOWN);
            for (int part = 0; part <= 1; part++) {
                due("gain(false, " + place + ", " + part + ")", x.gain(false, place, part), UNKNOWN);
                due("gain(true, " + place + ", " + part + ")", x.gain(true, place, part), UNKNOWN);
                due("after(false, 0, " + place + ", " + part + ")", x.after(false, 0, place, part), UNKNOWN);
                due("after(true, 4, " + place + ", " + part + ")", x.after(true, 4, place, part), UNKNOWN);
            }
        }
        for (int what = -1; what <= 16; what++) {
            due("about(" + what + ")", x.about(what), STATE);
            due("plan(" + what + ")", x.plan(what), STATE);
        }
        for (int tick = -1; tick <= 5; tick++) {
            due("input(" + tick + ", 0)", x.input(tick, 0), STATE);
            due("input(" + tick + ", 1)", x.input(tick, 1), STATE);
        }
        due("tick(0)", x.tick(0), STATE);
        due("most(false)", x.most(false), STATE);
        due("most(true)", x.most(true), STATE);
        row("count()", counts(x), 0, letters, 2, 0, 0);
    }

    @Says(promise = 1, words = "No PLANT.")
    private static void aNewObjectHasNone() {
        eachCallWithoutAPlant(new RestGains(), 0);
    }

    @Says(promise = 1, words = "No PLANT.")
    private static void aRefusedPlantIsNone() {
        RestGains x = written("1;1;1;");
        due("plant()", x.plant(), STATE);
        eachCallWithoutAPlant(x, 6);
    }

    @Says(promise = 1, words = "No PLANT.")
    private static void aNewObjectHasAnEmptyPage() {
        due("fault()", new RestGains().fault(), 0);
        due("blank()", new RestGains().blank(), 0);
        due("plant()", new RestGains().plant(), STATE);
        due("letter(65)", new RestGains().letter(65), 1);
    }

    @Says(promise = 1, words = "LIMIT (1 to 5; 2 at first)")
    private static void aNewObjectHasALimitOfTwo() {
        due("limit(5)", new RestGains().limit(5), 2);
    }

    @Says(promise = 1, words = "No PLANT.")
    private static void objectsAreApart() {
        RestGains one = busy("abc");
        RestGains other = new RestGains();
        eachCallWithoutAPlant(other, 0);
        same("the one", one, busy("abc"));
    }

    // ---- letter

    @Says(promise = 2, words = "OUTSIDE: code (32 to 126)")
    private static void theCodesAtBothEnds() {
        RestGains x = new RestGains();
        due("letter(32)", x.letter(32), 1);
        due("letter(126)", x.letter(126), 2);
        due("digest()", x.digest(), fold(32, 126, 0, 2, 2, 0, 0));
    }

    @Says(promise = 2, words = "OUTSIDE: code (32 to 126)")
    private static void theCodesJustOutside() {
        for (int code : new int[] {31, 127, 0, -1, -32, 32 + 65536, 49 + 256}) {
            refused("letter(" + code + ")", () -> busy("ab"), x -> x.letter(code), OUTSIDE);
        }
        for (int code : FAR) {
            refused("letter(" + code + ")", RestGains::new, x -> x.letter(code), OUTSIDE);
        }
    }

    @Says(promise = 2, words = "how many THE PAGE has")
    private static void eachCodeIsTaken() {
        RestGains x = new RestGains();
        for (int code = 32; code <= 126; code++) {
            due("letter(" + code + ")", x.letter(code), 1);
            due("digest()", x.digest(), fold(code, 0, 1, 2, 0, 0));
            x.blank();
        }
    }

    @Says(promise = 2, words = "FULL: there are 46")
    private static void theLastFreeLetter() {
        RestGains x = written(LONGEST.substring(0, 45));
        due("count(1) of 45", x.count(1), 45);
        due("the 46th letter", x.letter('x'), 46);
        due("count(1) of 46", x.count(1), 46);
    }

    @Says(promise = 2, words = "FULL: there are 46")
    private static void oneMoreThanFull() {
        for (int code : new int[] {32, '1', 126}) {
            refused("letter(" + code + ") as the 47th", () -> busy(FULL_PAGE), x -> x.letter(code), FULL);
        }
    }

    @Says(promise = 2, words = "OUTSIDE: code (32 to 126); FULL: there are 46")
    private static void outsideComesAheadOfFull() {
        refused("letter(31) as the 47th", () -> busy(FULL_PAGE), x -> x.letter(31), OUTSIDE);
        refused("letter(127) as the 47th", () -> busy(FULL_PAGE), x -> x.letter(127), OUTSIDE);
    }

    @Says(promise = 2, words = "FULL: there are 46")
    private static void aFullPageIsFreeBehindBlankAndPlant() {
        RestGains x = written(LONGEST);
        due("letter(49) when full", x.letter(49), FULL);
        due("plant()", x.plant(), 3);
        due("letter(49) behind plant()", x.letter(49), 1);
        write(x, FULL_PAGE);
        due("letter(49) when full", x.letter(49), FULL);
        due("blank()", x.blank(), 46);
        due("letter(49) behind blank()", x.letter(49), 1);
    }

    // ---- blank

    @Says(promise = 3, words = "how many letters it had")
    private static void blankOfAnEmptyOneAndAFullPage() {
        RestGains x = new RestGains();
        due("blank() of none", x.blank(), 0);
        write(x, "1");
        due("blank() of one", x.blank(), 1);
        write(x, FULL_PAGE);
        due("blank() of 46", x.blank(), 46);
        due("blank() again", x.blank(), 0);
    }

    @Says(promise = 3, words = "THE PAGE is empty")
    private static void blankLeavesAllElse() {
        RestGains x = busy("1;2;1");
        x.blank();
        due("fault()", x.fault(), 0);
        due("plant()", x.plant(), STATE);
        same("behind blank()", x, busy(""));
    }

    @Says(promise = 3, words = "THE PAGE is empty")
    private static void nothingOfABlankedPageComesBack() {
        RestGains x = written("1;2;1;1");
        x.blank();
        write(x, "1;");
        due("fault()", x.fault(), 2);
        due("plant()", x.plant(), STATE);
        due("digest()", x.digest(), fold('1', ';', 0, 2, 2, 0, 0));
    }

    // ---- fault

    @Says(promise = 4, words = "how many letters it has, if there is none")
    private static void faultOfEachBeginning() {
        for (int order = 1; order <= 3; order++) {
            for (int number = -2; number <= 2; number++) {
                String text = flat(order, number);
                for (int length = 0; length <= text.length(); length++) {
                    due("fault() of " + text.substring(0, length), fault(text.substring(0, length)), length);
                }
            }
        }
    }

    @Says(promise = 4, words = "the first letter of THE PAGE with which, and those ahead of it, no PLANT begins")
    private static void faultOfAFullPage() {
        due("no fault", fault(LONGEST), 46);
        due("fault in the last letter", fault(FULL_PAGE), 45);
        due("fault in the first letter", fault("x" + LONGEST.substring(1)), 0);
        due("fault in each letter", fault(" ".repeat(46)), 0);
    }

    @Says(promise = 4, words = "The place (from 0) of the first letter")
    private static void faultTellsTheFirstOfSeveral() {
        due("of three", fault("2;x,x,x"), 2);
        due("what follows would be a plant", fault("x1;1;1;1"), 0);
        due("what follows would be a plant", fault("1;x1;1;1"), 2);
    }

    @Says(promise = 4, words = "The place (from 0) of the first letter")
    private static void faultChangesNothing() {
        for (String page : new String[] {"", "1;2", "1;2;1;1", "1;3;1;1", FULL_PAGE}) {
            RestGains x = busy(page);
            due("fault() twice", x.fault(), x.fault());
            same("behind fault()", x, busy(page));
        }
    }

    @Says(promise = 4, words = "a digit 1 to 3, its ORDER")
    private static void theOrderAtBothEnds() {
        for (int code = 32; code <= 126; code++) {
            due("fault() of " + (char) code, fault(String.valueOf((char) code)), code >= '1' && code <= '3' ? 1 : 0);
        }
        due("two digits", fault("11"), 1);
        due("a sign", fault("-1"), 0);
    }

    @Says(promise = 4, words = "each number is a figure 0 to 2, or \"-1\", \"-2\"")
    private static void theNumbersAtBothEnds() {
        for (String ahead : new String[] {"1;", "1;1;", "1;1;1;", "2;0,", "3;0,0,0,0,0,0,0,0,-2;-1,", "3;0,0,0,0,0,0,0,0,0;0,0,0;0,0,"}) {
            int at = ahead.length();
            for (int code = 32; code <= 126; code++) {
                boolean begins = code >= '0' && code <= '2' || code == '-';
                due("fault() of " + ahead + (char) code, fault(ahead + (char) code), begins ? at + 1 : at);
                boolean goesOn = code == '1' || code == '2';
                due("fault() of " + ahead + "-" + (char) code, fault(ahead + "-" + (char) code), goesOn ? at + 2 : at + 1);
            }
        }
    }

    @Says(promise = 4, words = "each number is a figure 0 to 2, or \"-1\", \"-2\"")
    private static void aNumberHasOneFigure() {
        due("00", fault("1;00"), 3);
        due("10", fault("1;10"), 3);
        due("-11", fault("1;-11"), 4);
        due("at the end", fault("1;1;1;00"), 7);
    }

    @Says(promise = 4, words = "\";\", ORDER times ORDER numbers with \",\" between")
    private static void theTableHasJustSoMany() {
        due("behind the order", fault("1,"), 1);
        for (int order = 1; order <= 3; order++) {
            String table = order + ";0" + ",0".repeat(order * order - 1);
            due("one more number", fault(table + ","), table.length());
            due("just so many", fault(table + ";"), table.length() + 1);
            if (order > 1) {
                String fewer = table.substring(0, table.length() - 2);
                due("one number fewer", fault(fewer + ";"), fewer.length());
                due("rows are not apart", fault(order + ";0" + ",0".repeat(order - 1) + ";"), 2 * order + 1);
            }
        }
    }

    @Says(promise = 4, words = "\";\", ORDER numbers (the PUSH); \";\", ORDER numbers (the VIEW)")
    private static void pushAndViewHaveJustSoMany() {
        for (int order = 1; order <= 3; order++) {
            String numbers = ";0" + ",0".repeat(order - 1);
            String table = order + ";0" + ",0".repeat(order * order - 1);
            String push = table + numbers;
            String view = push + numbers;
            due("one more in PUSH", fault(push + ","), push.length());
            due("just so many in PUSH", fault(push + ";"), push.length() + 1);
            due("just so many in VIEW", fault(view), view.length());
            if (order > 1) {
                due("one fewer in PUSH", fault(push.substring(0, push.length() - 2) + ";"), push.length() - 2);
                due("one fewer in VIEW", fault(view.substring(0, view.length() - 2) + ";"), view.length() - 2);
            }
            for (int code = 32; code <= 126; code++) {
                due("a letter behind VIEW", fault(view + (char) code), view.length());
            }
        }
    }

    @Says(promise = 4, words = "both with \",\" between likewise")
    private static void eachSignStandsAlone() {
        String text = flat(3, 1);
        for (int at = 1; at < text.length(); at += 2) {
            for (int code = 32; code <= 126; code++) {
                long place = text.charAt(at) == code ? at + 1 : at;
                due("fault() of a sign", fault(text.substring(0, at) + (char) code), place);
            }
        }
    }

    // ---- plant

    @Says(promise = 5, words = "STATE: it is none")
    private static void whatIsNoPlant() {
        String[] none = {"", "1", "1;", "1;-", "1;1", "1;1;1;", "1;1;1;-", "1;1;1;1;", "1;1;1;1,", "1;1;1;1 ", " 1;1;1;1", "1;1;1;3", "1;1;1;-0", "0;;;", "0",
            "4", "x", "1;1;1;11", "2;1;1;1", "2;1,1,1,1;1,1;1", "2;1,1,1,1;1,1;1,", "2;1,1;1,1;1,1;1,1", FULL_PAGE};
        for (String page : none) {
            refused("plant() of " + page, () -> busy(page), RestGains::plant, STATE);
            refused("plant() of " + page + " without another", () -> written(page), RestGains::plant, STATE);
        }
    }

    @Says(promise = 5, words = "STATE: it is none")
    private static void noProperBeginningIsAPlant() {
        for (int order = 1; order <= 3; order++) {
            String text = flat(order, -1);
            for (int length = 0; length < text.length(); length++) {
                due("plant() of " + text.substring(0, length), written(text.substring(0, length)).plant(), STATE);
            }
            due("plant() of " + text, written(text).plant(), order);
        }
    }

    @Says(promise = 5, words = "its ORDER; THE PAGE is empty then")
    private static void theShortestAndTheLongestPlant() {
        String[] texts = {"1;0;0;0", flat(1, -2), flat(2, 0), flat(2, -2), flat(3, 2), flat(3, -2)};
        int[] lengths = {7, 10, 17, 25, 31, 46};
        for (int i = 0; i < texts.length; i++) {
            RestGains x = written(texts[i]);
            due("letters of " + texts[i], x.count(1), lengths[i]);
            due("plant() of " + texts[i], x.plant(), texts[i].charAt(0) - '0');
            due("count(1)", x.count(1), 0);
            due("fault()", x.fault(), 0);
            due("blank()", x.blank(), 0);
            due("plant() again", x.plant(), STATE);
        }
    }

    @Says(promise = 5, words = "another one is gone; LIMIT stays")
    private static void anotherOneIsGone() {
        String[] texts = {"1;-1;2;-2", "2;1,2,0,-1;1,2;-1,1", "3;1,2,-1,0,1,2,2,-2,1;1,-1,2;1,1,-2", flat(1, 0), flat(2, 0), flat(3, 0)};
        for (String first : texts) {
            for (String second : texts) {
                RestGains x = started(planted(first), 20, -20, 20);
                x.limit(5);
                x.plan(0);
                write(x, second);
                due("plant() of " + second, x.plant(), second.charAt(0) - '0');
                RestGains alone = planted(second);
                alone.limit(5);
                row(second + " behind " + first, ofPlant(x), ofPlant(alone));
                row("count()", counts(x), second.charAt(0) - '0', 0, 5, 2, 0);
                row("with a START", ofPlant(started(x, 1, 2, 3)), ofPlant(started(alone, 1, 2, 3)));
            }
        }
    }

    @Says(promise = 5, words = "LIMIT stays")
    private static void eachLimitStays() {
        for (int limit = 1; limit <= 5; limit++) {
            RestGains x = new RestGains();
            x.limit(limit);
            write(x, "1;1;1;1");
            x.plant();
            due("count(2)", x.count(2), limit);
        }
    }

    @Says(promise = 5, words = "START is a STATE of whole numbers (all 0 when a PLANT is read)")
    private static void theSamePlantReadAgainStartsAtRest() {
        RestGains x = planted(SHIFT, 20, -20);
        x.tick(100);
        write(x, SHIFT);
        x.plant();
        due("start(0, 1)", x.start(0, 1), 0);
        due("start(1, 1)", x.start(1, 1), 0);
    }

    @Says(promise = 5, words = "(row by row: the TABLE)")
    private static void eachNumberComesToItsPlace() {
        for (int order = 1; order <= 3; order++) {
            for (int at = 0; at < order * order + 2 * order; at++) {
                StringBuilder text = new StringBuilder(flat(order, 0));
                text.setCharAt(2 + 2 * at, '2');
                RestGains x = planted(text.toString());
                int past = at - order * order;
                int due = past < 0 ? 3 * (at / order) + at % order : 9 + 3 * (past / order) + past % order;
                for (int what = 0; what < 15; what++) {
                    boolean there = what % 3 < order && (what >= 9 || what / 3 < order);
                    due("has(" + what + ") of " + text, x.has(what), there ? what == due ? 2 : 0 : UNKNOWN);
                }
            }
        }
    }

    @Says(promise = 5, words = "they change nothing")
    private static void manyRefusedCallsChangeNothing() {
        ToLongFunction<RestGains> many = x -> {
            for (int i = 0; i < 60; i++) {
                x.plant();
                x.letter(127);
                x.letter('1');
            }
            return x.plant();
        };
        refused("plant() and letter() on a full page", () -> busy(FULL_PAGE), many, STATE);
    }
}
