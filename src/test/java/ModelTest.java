import java.util.Random;

/** Long runs of drawn calls on the class and on the model, call by call; the seeds are fixed, so that runs repeat. */
final class ModelTest {
    private static final int RUNS = 3600, CALLS = 512, MOST_IN_A_STEP = 91, KINDS = 27;
    private static final Due due = new Due("ModelTest");

    private final Random draw;
    private final KnitChronicle x = new KnitChronicle();
    private final Model model = new Model();
    private final int mostStitches;
    private final int run;
    private int calls;

    private ModelTest(int run) {
        this.run = run;
        draw = new Random(run);
        mostStitches = run % 3 == 0 ? 24 : 3 + run % 7;
    }

    public static void main(String[] args) {
        for (int run = 0; run < RUNS; run++) {
            new ModelTest(run).go();
        }
        due.end();
    }

    private void go() {
        while (calls + MOST_IN_A_STEP <= CALLS) {
            int kind = draw.nextInt(KINDS);
            // Most of a run is to be asked of scarves that have something to tell.
            if (kind == 1 && draw.nextInt(4) != 0) {
                kind = 0;
            }
            step(kind);
            if (due.wrong() > 0) {
                due.end();
            }
        }
    }

    private void answers(String call, long got, long want) {
        calls++;
        due.is(call, got, want);
    }

    /** A number of some from 0 on, seldom one just beside them, very seldom any at all. */
    private int some(int count) {
        int luck = draw.nextInt(40);
        if (luck == 0) {
            return draw.nextBoolean() ? -1 : count;
        }
        if (luck == 1) {
            return draw.nextInt(6) == 0 ? draw.nextInt() : draw.nextBoolean() ? -2 : count + 1;
        }
        return draw.nextInt(Math.max(1, count));
    }

    private int stitch() {
        return some(model.told(1));
    }

    private int set() {
        int n = model.told(1);
        int luck = draw.nextInt(30);
        if (luck == 0) {
            return draw.nextBoolean() ? 1 << n : draw.nextInt();
        }
        int set = draw.nextInt() & ((1 << n) - 1);
        return luck % 3 == 0 ? set & draw.nextInt() & draw.nextInt() : luck % 3 == 1 ? set & draw.nextInt() : set;
    }

    private String drawnAct(int n) {
        char stitch = (char) ('A' + Math.min(23, draw.nextInt(n + 1)));
        switch (draw.nextInt(6)) {
            case 0: return "-" + stitch;
            case 1: return "*" + stitch;
            case 2: return "+" + stitch + (char) ('a' + draw.nextInt(4));
            default: return "" + (char) ('a' + draw.nextInt(4)) + draw.nextInt(4);
        }
    }

    /** A few acts, mostly such as can be, sometimes with a sign that spoils them. */
    private void writePad() {
        answers(name("wipe"), x.wipe(), model.wipe());
        int acts = draw.nextInt(8) == 0 ? 30 : draw.nextInt(6);
        StringBuilder text = new StringBuilder();
        for (int i = 0; i < acts; i++) {
            text.append(drawnAct(Math.min(mostStitches, model.told(1) + i)));
        }
        if (text.length() > 0 && draw.nextInt(6) == 0) {
            text.setCharAt(draw.nextInt(text.length()), "abd039-*+AMXY4e".charAt(draw.nextInt(15)));
        }
        if (text.length() > 0 && draw.nextInt(10) == 0) {
            text.setLength(text.length() - 1);
        }
        for (int i = 0; i < text.length(); i++) {
            answers(name("say " + text), x.say(text.charAt(i)), model.say(text.charAt(i)));
        }
    }

    private String name(String call) {
        return "run " + run + " " + call;
    }

    private void step(int kind) {
        if (kind < 14) {
            stepOfWeeks(kind);
        } else {
            stepOfQuestions(kind);
        }
    }

    private void stepOfWeeks(int kind) {
        int a;
        int b;
        int c;
        switch (kind) {
            case 0:
                if (model.told(1) >= mostStitches && mostStitches < 24) {
                    answers(name("cast"), x.cast(), model.cast());
                }
                a = some(4);
                b = some(10);
                c = draw.nextInt(3) == 0 ? -1 : stitch();
                answers(name("stitch " + a + " " + b + " " + c), x.stitch(a, b, c), model.stitch(a, b, c));
                break;
            case 1:
                answers(name("cast"), x.cast(), model.cast());
                break;
            case 2:
                a = some(4);
                b = some(10);
                answers(name("knitter " + a + " " + b), x.knitter(a, b), model.knitter(a, b));
                break;
            case 3:
                a = 33 + some(94);
                answers(name("say " + a), x.say(a), model.say(a));
                break;
            case 4:
            case 5:
            case 6:
                writePad();
                break;
            case 7:
                answers(name("fault"), x.fault(), model.fault());
                break;
            case 8:
                a = some(2);
                answers(name("judge " + a), x.judge(a), model.judge(a));
                break;
            case 9:
                answers(name("done"), x.done(), model.done());
                break;
            case 10:
            case 11:
                a = some(4);
                answers(name("behind " + a), x.behind(a), model.behind(a));
                break;
            default:
                a = stitch();
                b = some(3);
                answers(name("of " + a + " " + b), x.of(a, b), model.of(a, b));
                break;
        }
    }

    private void stepOfQuestions(int kind) {
        int a;
        int b;
        int c;
        switch (kind) {
            case 14:
                a = stitch();
                answers(name("pull " + a), x.pull(a), model.pull(a));
                break;
            case 15:
                if (model.triesTooMuch(9)) {
                    break;
                }
                a = set();
                b = set() & ~(draw.nextInt(4) == 0 ? 0 : a);
                c = some(2);
                answers(name("pulls " + a + " " + b + " " + c), x.pulls(a, b, c), model.pulls(a, b, c));
                break;
            case 16:
                answers(name("pattern"), x.pattern(), model.pattern());
                break;
            case 17:
                a = stitch();
                answers(name("hole " + a), x.hole(a), model.hole(a));
                break;
            case 18:
                a = some(2);
                answers(name("rip " + a), x.rip(a), model.rip(a));
                break;
            case 19:
                a = some(10);
                b = some(2);
                answers(name("hold " + a + " " + b), x.hold(a, b), model.hold(a, b));
                break;
            case 20:
                answers(name("hands"), x.hands(), model.hands());
                break;
            case 21:
                a = stitch();
                answers(name("who " + a), x.who(a), model.who(a));
                break;
            case 22:
                stepOfSights();
                break;
            case 23:
                if (model.triesTooMuch(9)) {
                    break;
                }
                a = set();
                b = some(11);
                c = some(2);
                answers(name("moths " + a + " " + b + " " + c), x.moths(a, b, c), model.moths(a, b, c));
                break;
            case 24:
                a = some(10000);
                b = 1 + some(99);
                c = some(3);
                answers(name("year " + a + " " + b + " " + c), x.year(a, b, c), model.year(a, b, c));
                break;
            case 25:
                a = some(2);
                boolean keeps = draw.nextBoolean();
                answers(name("image or restore " + a), keeps ? x.image(a) : x.restore(a), keeps ? model.image(a) : model.restore(a));
                break;
            default:
                a = draw.nextBoolean() ? some(15) : 100 * (1 + stitch()) + some(3);
                answers(name("told " + a), x.told(a), model.told(a));
                break;
        }
    }

    private void stepOfSights() {
        int a = some(10);
        boolean may = draw.nextInt(3) == 0;
        switch (draw.nextInt(6)) {
            case 0:
                answers(name("forget"), x.forget(), model.forget());
                break;
            case 1:
                answers(name("tights"), x.tights(), model.tights());
                break;
            case 2:
            case 3:
                a = some(2);
                answers(name("next " + a), x.next(a), model.next(a));
                break;
            default:
                answers(name("seen " + a + " " + may), x.seen(a, may), model.seen(a, may));
                break;
        }
    }
}
