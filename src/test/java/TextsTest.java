import java.util.regex.Matcher;
import java.util.regex.Pattern;

/** Promises 11 to 17. */
final class TextsTest {
    private static final Class<IllegalArgumentException> ARGUMENT = IllegalArgumentException.class;
    private static final Class<IllegalStateException> STATE = IllegalStateException.class;

    private TextsTest() { }

    static void run() {
        Check.test("11 append", TextsTest::append);
        Check.test("11 append throws", TextsTest::appendThrows);
        Check.test("12 clearBuffer", TextsTest::clearBuffer);
        Check.test("13 firstError of good texts", TextsTest::goodTexts);
        Check.test("13 firstError of bad texts", TextsTest::badTexts);
        Check.test("13 firstError as a regular expression tells it", TextsTest::errorsByExpression);
        Check.test("14 load", TextsTest::load);
        Check.test("14 load throws", TextsTest::loadThrows);
        Check.test("14 load clears the buffer, undo does not bring it back", TextsTest::loadUndone);
        Check.test("15 keep", TextsTest::keep);
        Check.test("15 keep throws", TextsTest::keepThrows);
        Check.test("16 goBack", TextsTest::goBack);
        Check.test("16 goBack throws", TextsTest::goBackThrows);
        Check.test("17 undo", TextsTest::undo);
        Check.test("17 undo's six states", TextsTest::sixStates);
    }

    static void type(DyeVats vats, String text) {
        for (int i = 0; i < text.length(); i++) {
            vats.append(text.charAt(i));
        }
    }

    private static void append() {
        DyeVats vats = new DyeVats();
        for (int i = 1; i <= 60; i++) {
            Check.due(i, vats.append(i % 2 == 0 ? 33 : 126));
        }
        Check.due("is not undoable", 0, vats.count(9));
        Check.due(60, vats.clearBuffer());
        Check.due(1, vats.append('0'));
    }

    private static void appendThrows() {
        DyeVats vats = new DyeVats();
        Check.dueThrow(ARGUMENT, () -> vats.append(32));
        Check.dueThrow(ARGUMENT, () -> vats.append(127));
        Check.dueThrow(ARGUMENT, () -> vats.append(-1));
        Check.dueThrow(ARGUMENT, () -> vats.append(Integer.MAX_VALUE));
        type(vats, "0123456789".repeat(6));
        Check.dueThrow(STATE, () -> vats.append('0'));
        Check.dueThrow(ARGUMENT, () -> vats.append(32));
        Check.due(60, vats.clearBuffer());
    }

    private static void clearBuffer() {
        DyeVats vats = new DyeVats();
        Check.due(0, vats.clearBuffer());
        type(vats, "xyz");
        Check.due(3, vats.clearBuffer());
        Check.due(0, vats.clearBuffer());
        Check.due(0, vats.firstError());
        Check.due(0, vats.count(9));
    }

    private static void dueError(int want, String text) {
        DyeVats vats = new DyeVats();
        type(vats, text);
        Check.due("firstError of " + text, want, vats.firstError());
        Check.due("firstError again of " + text, want, vats.firstError());
        Check.due("length of " + text, text.length(), vats.clearBuffer());
    }

    private static void goodTexts() {
        String[] texts = {
            "0>1*1@0-0", "4>0*500@23-23", "3>5*99@0-23", "0>1*500@1-19", "0>1*7@9-9;4>5*10@10-20;2>1*1@0-9", "2>4*500@19-20",
            "0>1*1@0-0;0>1*1@0-0;0>1*1@0-0;0>1*1@0-0;0>1*1@0-0;0>1*1@0-0",
        };
        for (String text : texts) {
            for (int end = 0; end <= text.length(); end++) {
                dueError(end, text.substring(0, end));
            }
        }
    }

    private static void badTexts() {
        dueError(0, "5>0*1@0-0");
        dueError(0, ";0>1*1@0-0");
        dueError(0, ">");
        dueError(1, "00>1");
        dueError(2, "3>3*1@0-0");
        dueError(2, "3>6*1@0-0");
        dueError(3, "3>50");
        dueError(4, "0>1*0");
        dueError(4, "0>1*@");
        dueError(6, "0>1*501@0-0");
        dueError(5, "0>1*6-");
        dueError(6, "0>1*60000");
        dueError(7, "0>1*5000@");
        dueError(7, "0>1*1@00-0");
        dueError(7, "0>1*1@24-24");
        dueError(7, "0>1*1@30-30");
        dueError(6, "0>1*1@-0");
        dueError(8, "0>1*1@1-0");
        dueError(8, "0>1*1@5-4");
        dueError(9, "0>1*1@5-1");
        dueError(9, "0>1*1@5-1;");
        dueError(9, "0>1*1@20-1");
        dueError(10, "0>1*1@20-2");
        dueError(10, "0>1*1@21-20");
        dueError(10, "0>1*1@23-22");
        dueError(11, "0>1*1@23-23");
        dueError(9, "0>1*1@23-3");
        dueError(10, "0>1*1@19-18");
        dueError(11, "0>1*1@19-1923");
        dueError(9, "0>1*1@0-00");
        dueError(9, "0>1*1@0-3-");
        dueError(9, "0>1*1@0-24");
        dueError(10, "0>1*1@0-0;;");
        dueError(11, "0>1*1@0-0;0;");
        dueError(12, "0>1*1@0-0;4>4*");
        dueError(1, "1+>0");
        dueError(0, "x".repeat(60));
    }

    private static Pattern planPattern() {
        StringBuilder ways = new StringBuilder();
        for (int from = 0; from <= 4; from++) {
            for (int to = 0; to <= 5; to++) {
                if (to != from) {
                    ways.append(ways.length() == 0 ? "" : "|").append(from).append('>').append(to);
                }
            }
        }
        StringBuilder rates = new StringBuilder();
        for (int rate = 1; rate <= 500; rate++) {
            rates.append(rate == 1 ? "" : "|").append(rate);
        }
        StringBuilder hours = new StringBuilder();
        for (int first = 0; first <= 23; first++) {
            for (int last = first; last <= 23; last++) {
                hours.append(hours.length() == 0 ? "" : "|").append(first).append('-').append(last);
            }
        }
        String valve = "(" + ways + ")\\*(" + rates + ")@(" + hours + ")";
        return Pattern.compile(valve + "(;" + valve + ")*");
    }

    /** The least length whose prefix no plan begins with, less 1; hitEnd tells if more characters could help. */
    private static int errorByExpression(Pattern plan, String text) {
        for (int end = 1; end <= text.length(); end++) {
            Matcher matcher = plan.matcher(text.substring(0, end));
            if (!matcher.matches() && !matcher.hitEnd()) {
                return end - 1;
            }
        }
        return text.length();
    }

    private static void errorsByExpression() {
        Pattern plan = planPattern();
        Dice dice = new Dice(5);
        String signs = "0123456789>*@-;!~";
        for (int run = 0; run < 3000; run++) {
            StringBuilder text = new StringBuilder();
            while (text.length() < 45 && dice.below(12) > 0) {
                text.append(text.length() == 0 ? "" : ";").append(dice.valveText());
            }
            for (int flaw = dice.below(3); flaw > 0 && text.length() > 0; flaw--) {
                text.setCharAt(dice.below(text.length()), signs.charAt(dice.below(signs.length())));
            }
            if (text.length() > 60) {
                text.setLength(60);
            }
            String typed = text.toString();
            dueError(errorByExpression(plan, typed), typed);
            dueLoad(plan.matcher(typed).matches(), typed);
        }
    }

    private static void dueLoad(boolean good, String text) {
        DyeVats vats = new DyeVats();
        type(vats, text);
        if (!good) {
            Check.dueThrow(ARGUMENT, () -> vats.load());
            Check.due(text.length(), vats.clearBuffer());
            return;
        }
        String[] valves = text.split(";");
        Check.due("load of " + text, valves.length, vats.load());
        for (int valve = 0; valve < valves.length; valve++) {
            String[] parts = valves[valve].split("[>*@-]");
            for (int what = 0; what < 5; what++) {
                Check.due("load of " + text, Integer.parseInt(parts[what]), vats.valveOf(valve, what));
            }
        }
    }

    private static void load() {
        DyeVats vats = new DyeVats();
        vats.fill(0, 50);
        vats.valve(0, 1, 5, 0, 23);
        vats.valve(0, 2, 5, 0, 23);
        vats.pass(1);
        type(vats, "4>5*500@20-23;0>3*12@0-9");
        Check.due(2, vats.load());
        ValvesTest.dueValve(vats, 0, 4, 5, 500, 20, 23, 0, 0);
        ValvesTest.dueValve(vats, 1, 0, 3, 12, 0, 9, 1, 0);
        Check.due(2, vats.count(2));
        Check.due(0, vats.clearBuffer());
        type(vats, "1>0*3@4-5");
        Check.due(1, vats.load());
        ValvesTest.dueValve(vats, 0, 1, 0, 3, 4, 5, 0, 0);
        Check.due(1, vats.count(2));
        type(vats, "0>1*1@0-0;0>1*2@0-0;0>1*3@0-0;0>1*4@0-0;0>1*5@0-0;0>1*6@0-0");
        Check.due(6, vats.load());
        Check.due(6, vats.valveOf(5, 2));
    }

    private static void loadThrows() {
        String[] texts = {"", "0", "0>1*1@0-", "0>1*1@5-1", "0>1*1@0-0;", "0>1*1@0-0!", "0>0*1@0-0", "0>1*1@0-0;1", "0>1*1@0-24"};
        for (String text : texts) {
            DyeVats vats = new DyeVats();
            vats.valve(1, 2, 3, 4, 5);
            type(vats, text);
            long before = vats.digest();
            Check.dueThrow(ARGUMENT, () -> vats.load());
            Check.due("digest after load of " + text, before, vats.digest());
            Check.due(text.length(), vats.clearBuffer());
        }
    }

    private static void loadUndone() {
        DyeVats vats = new DyeVats();
        vats.fill(1, 5);
        vats.valve(1, 2, 3, 0, 5);
        vats.pass(1);
        type(vats, "0>1*1@0-0");
        vats.load();
        type(vats, "7");
        Check.due(3, vats.undo());
        ValvesTest.dueValve(vats, 0, 1, 2, 3, 0, 5, 1, 3);
        Check.due(1, vats.clearBuffer());
    }

    private static void keep() {
        DyeVats vats = new DyeVats();
        Check.due(0, vats.keep(0));
        vats.pass(29);
        Check.due(5, vats.keep(1));
        Check.due("is not undoable", 1, vats.count(9));
        vats.pass(1);
        Check.due(6, vats.keep(1));
        Check.due(0, vats.goBack(0));
        Check.due(6, vats.goBack(1));
    }

    private static void keepThrows() {
        DyeVats vats = new DyeVats();
        Check.dueThrow(ARGUMENT, () -> vats.keep(2));
        Check.dueThrow(ARGUMENT, () -> vats.keep(-1));
        Check.dueThrow(STATE, () -> vats.goBack(0));
        Check.dueThrow(STATE, () -> vats.goBack(1));
    }

    private static void goBack() {
        DyeVats vats = new DyeVats();
        vats.fill(0, 100);
        vats.dye(0, 0, 60);
        vats.fill(0, 1000);
        vats.valve(0, 5, 7, 0, 23);
        vats.pipe(0, 1);
        vats.pass(3);
        vats.set(33);
        long digest = vats.digest();
        vats.keep(1);
        long kept = vats.digest();
        Check.due("the digest tells the slot", 1, digest == kept ? 0 : 1);
        vats.capacity(3, 12);
        vats.close(0);
        vats.pipe(1, 0);
        vats.set(44);
        vats.fill(3, 13);
        vats.pass(30);
        type(vats, "ab");
        Check.due(3, vats.goBack(1));
        Check.due("the buffer stays", 2, vats.clearBuffer());
        Check.due(6, vats.count(9));
        Check.due(kept, vats.digest());
        Check.due("is undoable", 5, vats.undo());
        Check.due(33, vats.count(1));
        Check.due(2, vats.count(7));
        Check.due(44, vats.count(8));
        Check.due(12, vats.vatOf(3, 0));
        Check.due("the snapshot stays", 3, vats.goBack(1));
        Check.due(1, vats.count(7));
    }

    private static void goBackThrows() {
        DyeVats vats = new DyeVats();
        Check.dueThrow(ARGUMENT, () -> vats.goBack(2));
        Check.dueThrow(ARGUMENT, () -> vats.goBack(-1));
        Check.dueThrow(STATE, () -> vats.goBack(0));
        vats.keep(0);
        Check.dueThrow(STATE, () -> vats.goBack(1));
        Check.due(0, vats.count(9));
        vats.fill(0, 1);
        vats.undo();
        Check.due("undo leaves the slots", 0, vats.goBack(0));
    }

    private static void undo() {
        DyeVats vats = new DyeVats();
        Check.dueThrow(STATE, () -> vats.undo());
        vats.fill(0, 10);
        vats.stir(0);
        Check.due("a call that changes nothing is saved", 2, vats.count(9));
        type(vats, "q");
        vats.keep(0);
        Check.due(1, vats.undo());
        Check.due(10, vats.vatOf(0, 1));
        Check.due(0, vats.undo());
        Check.due(0, vats.vatOf(0, 1));
        Check.dueThrow(STATE, () -> vats.undo());
        Check.due("the buffer stays", 1, vats.clearBuffer());
        Check.due(0, vats.goBack(0));
        Check.due(10, vats.vatOf(0, 1));
    }

    private static void sixStates() {
        DyeVats vats = new DyeVats();
        for (int i = 1; i <= 9; i++) {
            vats.fill(0, 1);
            Check.due(Math.min(i, 6), vats.count(9));
        }
        for (int left = 5; left >= 0; left--) {
            Check.due(left, vats.undo());
            Check.due(left + 3, vats.vatOf(0, 1));
        }
        Check.dueThrow(STATE, () -> vats.undo());
        Check.due(3, vats.vatOf(0, 1));
    }
}
