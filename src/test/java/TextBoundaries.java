import java.util.HashSet;
import java.util.Set;

/** The boundary cases of promises 11 to 14. */
final class TextBoundaries extends Boundary {
    private static final String SIX = "0>1*1@0-0;1>2*2@1-1;2>3*3@2-2;3>4*4@3-3;4>5*5@4-4;0>5*6@5-5";

    private TextBoundaries() { }

    static void run() {
        appendCodes();
        appendLength();
        clearBuffer();
        errorPlaces();
        errorVats();
        errorRates();
        errorHours();
        errorSigns();
        loadThrows();
        loadTakes();
        loadUndone();
    }

    private static DyeVats typed(String text) {
        DyeVats vats = new DyeVats();
        type(vats, text);
        return vats;
    }

    private static DyeVats fullBuffer() {
        DyeVats vats = busy();
        type(vats, "#".repeat(51));
        return vats;
    }

    private static void appendCodes() {
        answers("11 append: the code 33 is the least", 1, DyeVats::new, vats -> vats.append(33));
        answers("11 append: the code 126 is the most", 1, DyeVats::new, vats -> vats.append(126));
        throwing("11 append: the code 32 is too little", ARGUMENT, vats -> vats.append(32));
        throwing("11 append: the code 127 is too much", ARGUMENT, vats -> vats.append(127));
        throwing("11 append: the code 0 is too little", ARGUMENT, vats -> vats.append(0));
        throwing("11 append: the code -1 is too little", ARGUMENT, vats -> vats.append(-1));
        throwing("11 append: the code 256 + 48 is too much", ARGUMENT, vats -> vats.append(256 + 48));
        throwing("11 append: the code 65536 + 48 is too much", ARGUMENT, vats -> vats.append(65536 + 48));
        throwing("11 append: the least integer is too little", ARGUMENT, vats -> vats.append(MIN));
        throwing("11 append: the greatest integer is too much", ARGUMENT, vats -> vats.append(MAX));
        Check.test("11 append: each code is kept as it is", () -> {
            for (int first = 33; first <= 126; first += 47) {
                StringBuilder text = new StringBuilder();
                DyeVats vats = new DyeVats();
                for (int code = first; code < first + 47; code++) {
                    text.append((char) code);
                    vats.append(code);
                }
                Check.due(WouldBeTest.digestByFace(vats, false, false, text.toString()), vats.digest());
            }
        });
    }

    private static void appendLength() {
        answers("11 append: the first character makes the length 1", 1, DyeVats::new, vats -> vats.append('0'));
        answers("11 append: the 59th character", 59, () -> typed("1".repeat(58)), vats -> vats.append('2'));
        answers("11 append: the 60th character is the last one", 60, () -> typed("1".repeat(59)), vats -> vats.append('2'));
        throwing("11 append: there is no 61st character", STATE, TextBoundaries::fullBuffer, vats -> vats.append('0'));
        throwing("11 append: a code that is too little, ahead of the full buffer", ARGUMENT, TextBoundaries::fullBuffer,
            vats -> vats.append(32));
        throwing("11 append: a code that is too much, ahead of the full buffer", ARGUMENT, TextBoundaries::fullBuffer,
            vats -> vats.append(127));
        Check.test("11 append: a buffer that was full and is cleared has 60 characters again", () -> {
            DyeVats vats = fullBuffer();
            vats.clearBuffer();
            for (int length = 1; length <= 60; length++) {
                Check.due(length, vats.append('~'));
            }
            Check.dueThrow(STATE, () -> vats.append('~'));
        });
        notUndoable("11 append", vats -> vats.append('0'));
    }

    private static void clearBuffer() {
        answers("12 clearBuffer: an empty one had 0", 0, DyeVats::new, DyeVats::clearBuffer);
        answers("12 clearBuffer: 1 character", 1, () -> typed("x"), DyeVats::clearBuffer);
        answers("12 clearBuffer: 60 characters", 60, TextBoundaries::fullBuffer, DyeVats::clearBuffer);
        answers("12 clearBuffer: the second time 0", 0, () -> {
            DyeVats vats = typed("xyz");
            vats.clearBuffer();
            return vats;
        }, DyeVats::clearBuffer);
        Check.test("12 clearBuffer: what was in it is not read any more", () -> {
            DyeVats vats = typed("0>1*1@0-0");
            vats.clearBuffer();
            Check.due(0, vats.firstError());
            Check.dueThrow(ARGUMENT, () -> vats.load());
            type(vats, ">");
            Check.due(0, vats.firstError());
        });
        changesNothing("12 clearBuffer: an empty one stays empty", DyeVats::new, DyeVats::clearBuffer);
        notUndoable("12 clearBuffer", DyeVats::clearBuffer);
        Check.test("12 clearBuffer: undo does not bring it back", () -> {
            DyeVats vats = busy();
            vats.clearBuffer();
            vats.undo();
            Check.due(0, vats.clearBuffer());
        });
    }

    private static void error(String name, int want, String text) {
        answers("13 firstError: " + name + ": " + text, want, () -> typed(text), DyeVats::firstError);
    }

    private static void noError(String name, String text) {
        error(name, text.length(), text);
    }

    private static void errorPlaces() {
        answers("13 firstError: 0 of an empty buffer, its length", 0, DyeVats::new, DyeVats::firstError);
        noError("none in one character", "0");
        error("at the first of one character", 0, "x");
        error("at the first of 60 characters", 0, ">" + "0".repeat(59));
        noError("none in 60 characters", SIX + ";");
        error("at the last of 60 characters", 59, SIX + "1");
        noError("a text that is longer than the buffer could begin so", "0>1*100@10-10;0>1*100@10-10;0>1*100@10-10;0>1*100@10-10;0>1");
        error("the first one of several", 4, "0>1*0@24-24x");
        error("the second valve's", 10, SIX.substring(0, 10) + "5>1*1@0-0");
        error("the sixth valve's", 58, SIX.substring(0, 58) + "4");
        changesNothing("13 firstError: it changes nothing", Boundary::full, DyeVats::firstError);
        changesNothing("13 firstError: it changes nothing with an error", TextBoundaries::fullBuffer, DyeVats::firstError);
        notUndoable("13 firstError", DyeVats::firstError);
        Check.test("13 firstError: it goes on as characters come", () -> {
            DyeVats vats = new DyeVats();
            for (int i = 0; i < SIX.length(); i++) {
                Check.due(i, vats.firstError());
                vats.append(SIX.charAt(i));
            }
            vats.append('!');
            Check.due(SIX.length(), vats.firstError());
        });
    }

    private static void errorVats() {
        noError("vat 0 is the first", "0>");
        noError("vat 4 is the last", "4>");
        error("out gives no water", 0, "5>");
        error("the sign ahead of 0 in the codes is no vat", 0, "/>");
        error("the sign behind 9 in the codes is no vat", 0, ":>");
        error("a vat is one digit", 1, "10>");
        error("a vat is one digit, also a zero", 1, "00>");
        noError("to vat 0", "1>0*");
        noError("to vat 4", "1>4*");
        noError("to out", "1>5*");
        error("6 is neither a vat nor out", 2, "1>6*");
        error("9 is neither a vat nor out", 2, "1>9*");
        error("the sign ahead of 0 in the codes is not to go to", 2, "1>/*");
        error("from vat 0 to itself", 2, "0>0*");
        error("from vat 4 to itself", 2, "4>4*");
        noError("from vat 4 to the one ahead of it", "4>3*");
        noError("to vat 0 from the last one", "4>0*");
        error("where it goes to is one digit", 3, "1>50*");
        error("where it goes to is one digit, also behind 0", 3, "1>02*");
        error("the second valve to itself", 12, "0>1*1@0-0;1>1*");
        noError("the second valve to the vat that the first one comes from", "0>1*1@0-0;1>0*");
    }

    private static void errorRates() {
        noError("the rate 1 is the least", "0>1*1@");
        error("the rate 0 is too little", 4, "0>1*0@");
        error("no leading zero", 4, "0>1*01@");
        noError("the rate 9", "0>1*9@");
        noError("the rate 10", "0>1*10@");
        noError("the rate 99", "0>1*99@");
        noError("the rate 100", "0>1*100@");
        noError("the rate 499", "0>1*499@");
        noError("the rate 500 is the most", "0>1*500@");
        error("the rate 501 is too much", 6, "0>1*501@");
        error("the rate 510 is too much", 6, "0>1*510@");
        noError("the rate 51", "0>1*51@");
        error("the rate 600 is too much", 6, "0>1*600@");
        noError("the rate 60", "0>1*60@");
        error("the rate 999 is too much", 6, "0>1*999@");
        error("the rate 1000 is too much", 7, "0>1*1000@");
        error("the rate 5000 is too much", 7, "0>1*5000@");
        error("no rate", 4, "0>1*@");
        Check.test("13 firstError: each rate from 0 to 1100", () -> {
            for (int rate = 0; rate <= 1100; rate++) {
                int digits = rate == 0 ? 0 : rate <= 500 ? Integer.toString(rate).length() : rate < 1000 ? 2 : 3;
                int want = rate >= 1 && rate <= 500 ? 5 + digits : 4 + digits;
                Check.due("rate " + rate, want, typed("0>1*" + rate + "@").firstError());
            }
        });
    }

    private static void errorHours() {
        noError("the first hour 0", "0>1*1@0-");
        noError("the first hour 9", "0>1*1@9-");
        noError("the first hour 10", "0>1*1@10-");
        noError("the first hour 19", "0>1*1@19-");
        noError("the first hour 20", "0>1*1@20-");
        noError("the first hour 23 is the last", "0>1*1@23-");
        error("the first hour 24 is none", 7, "0>1*1@24-");
        error("the first hour 30 is none", 7, "0>1*1@30-");
        error("the first hour 00 has a leading zero", 7, "0>1*1@00-");
        error("the first hour 05 has a leading zero", 7, "0>1*1@05-");
        error("the first hour 100 is none", 8, "0>1*1@100-");
        error("no first hour", 6, "0>1*1@-");
        noError("the last hour is the first one, 0", "0>1*1@0-0;");
        noError("the last hour is the first one, 23", "0>1*1@23-23;");
        noError("the last hour 23 is the last", "0>1*1@0-23;");
        error("the last hour 24 is none", 9, "0>1*1@0-24");
        error("the last hour is not less than the first one: 7 behind 8", 8, "0>1*1@8-7");
        noError("the last hour 8 behind 8", "0>1*1@8-8;");
        noError("the last hour 9 behind 8", "0>1*1@8-9;");
        noError("the last hour 10 behind 8", "0>1*1@8-10;");
        error("the last hour 1 behind 8 must go on", 9, "0>1*1@8-1;");
        error("the last hour 2 behind 8 must go on", 9, "0>1*1@8-2;");
        error("the last hour 0 behind 1", 8, "0>1*1@1-0");
        error("the last hour 18 behind 19", 10, "0>1*1@19-18");
        noError("the last hour 19 behind 19", "0>1*1@19-19;");
        noError("the last hour 20 behind 19", "0>1*1@19-20;");
        error("the last hour 1 behind 20 can't become whole", 9, "0>1*1@20-1");
        noError("the last hour 20 behind 20", "0>1*1@20-20;");
        error("the last hour 22 behind 23", 10, "0>1*1@23-22");
        error("the last hour 3 behind 10 can't become whole", 9, "0>1*1@10-3");
        error("the last hour 00 has a leading zero", 9, "0>1*1@0-00");
        error("the last hour 03 has a leading zero", 9, "0>1*1@0-03");
        error("the last hour 230 is none", 10, "0>1*1@0-230");
        error("no last hour", 8, "0>1*1@0-;");
        Check.test("13 firstError: each two hours from 0 to 29", TextBoundaries::eachTwoHours);
    }

    private static void eachTwoHours() {
        Set<String> begins = new HashSet<>();
        for (int first = 0; first <= 23; first++) {
            for (int last = first; last <= 23; last++) {
                String whole = first + "-" + last + ";";
                for (int end = 0; end <= whole.length(); end++) {
                    begins.add(whole.substring(0, end));
                }
            }
        }
        for (int first = 0; first <= 29; first++) {
            for (int last = 0; last <= 29; last++) {
                String hours = first + "-" + last + ";";
                int good = 0;
                while (good < hours.length() && begins.contains(hours.substring(0, good + 1))) {
                    good++;
                }
                Check.due("hours " + hours, 6 + good, typed("0>1*1@" + hours).firstError());
            }
        }
    }

    private static void errorSigns() {
        String plan = "0>1*1@0-0;";
        for (int place : new int[] {1, 3, 5, 7, 9}) {
            String ahead = plan.substring(0, place);
            char sign = plan.charAt(place);
            noError("the sign " + sign + " at its place", ahead + sign);
            for (int i = 0; i < 5; i++) {
                char other = ">*@-;".charAt(i);
                if (other != sign) {
                    error("another sign in place of " + sign, place, ahead + other);
                }
            }
            error("a sign of no meaning in place of " + sign, place, ahead + "!");
            error("the sign " + sign + " twice", place + 1, ahead + sign + sign);
            error("the sign " + sign + " ahead of its number", place - 1, ahead.substring(0, place - 1) + sign);
        }
        noError("a sign ; at the end, as a valve may follow", "0>1*1@0-0;");
        error("the code 33", 0, "!");
        error("the code 126", 0, "~");
        error("a letter behind a plan", 9, "0>1*1@0-0a");
    }

    private static void notLoaded(String name, String text) {
        throwing("14 load: " + name, ARGUMENT, () -> {
            DyeVats vats = busy();
            vats.clearBuffer();
            type(vats, text);
            return vats;
        }, DyeVats::load);
    }

    private static void loadThrows() {
        notLoaded("an empty buffer tells no plan", "");
        for (int end = 1; end < 9; end++) {
            notLoaded("the first " + end + " characters of a plan tell none", "0>1*1@0-0".substring(0, end));
        }
        notLoaded("a ; at the end tells none", "0>1*1@0-0;");
        notLoaded("a second valve without its end tells none", "0>1*1@0-0;1>2*3@4-");
        notLoaded("a last hour that must go on tells none", "0>1*1@8-1");
        notLoaded("a second valve with a last hour that must go on tells none", "0>1*1@0-0;0>1*1@8-2");
        notLoaded("an error at the last character", "0>1*1@0-0!");
        notLoaded("an error at the first character", "50>1*1@0-0");
        notLoaded("an error of the second valve", "0>1*1@0-0;5>1*1@0-0");
        notLoaded("the rate 501", "0>1*501@0-0");
        notLoaded("the hour 24", "0>1*1@0-24");
        notLoaded("the last hour 1 less than the first one", "0>1*1@9-8");
        notLoaded("a vat to itself", "3>3*1@0-0");
        notLoaded("60 characters with an error at the last one", SIX + "0");
        notLoaded("60 characters with a ; at the end", SIX + ";");
        throwing("14 load: none without a buffer, valves or saved states", ARGUMENT, DyeVats::new, DyeVats::load);
    }

    private static void loadTakes() {
        Check.test("14 load: one valve, of the least numbers", () -> dueLoaded("0>1*1@0-0"));
        Check.test("14 load: one valve, of the greatest numbers", () -> dueLoaded("4>5*500@23-23"));
        Check.test("14 load: two valves", () -> dueLoaded("4>5*500@23-23;0>4*99@0-23"));
        Check.test("14 load: six valves, the most that 60 characters hold", () -> dueLoaded(SIX));
        Check.test("14 load: more than 8 valves cannot come about, as not even a seventh one can be typed", () -> {
            DyeVats vats = typed(SIX + ";");
            Check.dueThrow(STATE, () -> vats.append('0'));
            Check.dueThrow(ARGUMENT, () -> vats.load());
        });
        Check.test("14 load: a plan of 60 characters", () -> dueLoaded(SIX.substring(0, 58) + "10"));
        Check.test("14 load: one in place of eight", () -> {
            DyeVats vats = new DyeVats();
            vats.fill(0, 100);
            for (int i = 0; i < 8; i++) {
                vats.valve(0, 5, 3, 0, 0);
            }
            vats.pass(1);
            type(vats, "1>2*30@4-5");
            Check.due(1, vats.load());
            Check.due(1, vats.count(2));
            Check.due(30, vats.valveOf(0, 2));
            Check.due(0, vats.valveOf(0, 6));
            Check.dueThrow(INDEX, () -> vats.valveOf(1, 0));
            Check.due("the water stays out", 24, vats.count(5));
        });
        Check.test("14 load: the same plan again moves from 0", () -> {
            DyeVats vats = typed("0>5*3@0-23");
            vats.fill(0, 10);
            vats.load();
            vats.pass(1);
            type(vats, "0>5*3@0-23");
            vats.load();
            Check.due(0, vats.valveOf(0, 6));
            vats.pass(1);
            Check.due(3, vats.valveOf(0, 6));
        });
        Check.test("14 load: firstError ahead of it changes nothing", () -> {
            DyeVats vats = typed("0>1*11@0-0;1>2*22@1-1;2>3*33@2-2");
            for (int i = 0; i < 9; i++) {
                vats.firstError();
            }
            Check.due(3, vats.load());
            Check.due(11, vats.valveOf(0, 2));
            Check.due(33, vats.valveOf(2, 2));
        });
        Check.test("14 load: a load ahead of it that throws changes nothing", () -> {
            DyeVats vats = typed("0>1*11@0-0;1>2*22@1-1;2>3*33@2-");
            for (int i = 0; i < 9; i++) {
                Check.dueThrow(ARGUMENT, () -> vats.load());
            }
            type(vats, "5");
            Check.due(3, vats.load());
            Check.due(22, vats.valveOf(1, 2));
            Check.due(5, vats.valveOf(2, 4));
        });
        Check.test("14 load: a longer and then a shorter plan", () -> {
            DyeVats vats = typed(SIX);
            vats.load();
            type(vats, "3>2*77@7-7");
            Check.due(1, vats.load());
            Check.due(77, vats.valveOf(0, 2));
            Check.due(1, vats.count(2));
        });
        Check.test("14 load: it clears the buffer", () -> {
            DyeVats vats = typed("0>1*1@0-0");
            vats.load();
            Check.due(0, vats.firstError());
            Check.dueThrow(ARGUMENT, () -> vats.load());
            Check.due(1, vats.append('0'));
        });
        Check.test("14 load: there is room for more valves behind it", () -> {
            DyeVats vats = typed(SIX);
            vats.load();
            Check.due(6, vats.valve(0, 1, 1, 0, 0));
            Check.due(7, vats.valve(0, 1, 1, 0, 0));
            Check.dueThrow(STATE, () -> vats.valve(0, 1, 1, 0, 0));
        });
    }

    private static void dueLoaded(String text) {
        DyeVats vats = typed(text);
        String[] valves = text.split(";");
        Check.due("load", valves.length, vats.load());
        Check.due("valves", valves.length, vats.count(2));
        for (int valve = 0; valve < valves.length; valve++) {
            String[] parts = valves[valve].split("[>*@-]");
            for (int what = 0; what < 5; what++) {
                Check.due("valveOf(" + valve + ", " + what + ")", Integer.parseInt(parts[what]), vats.valveOf(valve, what));
            }
            Check.due("moved", 0, vats.valveOf(valve, 6));
        }
    }

    private static void loadUndone() {
        undoable("14 load", DyeVats::load);
        Check.test("14 load: undo brings the valves back with what they have moved", () -> {
            DyeVats vats = busy();
            vats.load();
            vats.undo();
            Check.due(2, vats.count(2));
            Check.due(3, vats.valveOf(0, 2));
            Check.due(15, vats.valveOf(0, 6));
        });
        Check.test("14 load: undo does not bring the buffer back", () -> {
            DyeVats vats = busy();
            vats.load();
            vats.undo();
            Check.due(0, vats.clearBuffer());
        });
    }
}
