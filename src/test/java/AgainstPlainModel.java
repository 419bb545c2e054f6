import java.util.Random;

/** Long runs of calls (of a fixed seed) on a desk and on the plain model, answer by answer. */
public final class AgainstPlainModel {
    private static final int RUNS = 400;
    private static final int CALLS = 512;

    private final Check check;
    private final Random random;
    private final int run;
    private MotionDesk desk = new MotionDesk();
    private PlainModel model = new PlainModel();
    private int calls = 0;

    private AgainstPlainModel(Check check, int run) {
        this.check = check;
        this.run = run;
        this.random = new Random(7919L * run + 1);
    }

    public static void main(String[] args) {
        Check check = new Check("AgainstPlainModel");
        for (int run = 0; run < RUNS && check.wrong() == 0; run++) {
            new AgainstPlainModel(check, run).go();
        }
        check.end();
    }

    private void go() {
        while (calls < CALLS && check.wrong() == 0) {
            if (random.nextInt(60) == 0 || calls == 0 && random.nextInt(10) != 0) {
                tell(random.nextInt(3) == 0 ? spoiled(text()) : text());
            } else {
                anyCall();
            }
        }
    }

    private void due(String call, int got, int want) {
        calls++;
        check.due("run " + run + ", call " + calls + ": " + call, got, want);
    }

    private void tell(String text) {
        if (random.nextInt(4) != 0) {
            due("clear()", desk.clear(), model.clear());
        }
        for (int i = 0; i < text.length(); i++) {
            char letter = text.charAt(i);
            due("type(" + (int) letter + ")", desk.type(letter), model.type(letter));
        }
        due("desk() of " + text, desk.desk(), model.desk());
    }

    // ---- texts

    private String text() {
        StringBuilder text = new StringBuilder();
        int motions = 3;
        if (random.nextInt(4) != 0) {
            motions = 2 + random.nextInt(5);
            text.append('n').append(motions).append(';');
        }
        int members = random.nextInt(10);
        int agendaAt = random.nextInt(2) == 0 ? random.nextInt(members + 1) : -1;
        for (int member = 0; member <= members; member++) {
            if (member == agendaAt) {
                text.append('g');
                branch(text, motions, random.nextInt(6));
                text.append(';');
            }
            if (member < members) {
                text.append('r').append(ranking(motions)).append(';');
            }
        }
        return random.nextInt(4) == 0 ? blanked(text.toString()) : text.toString();
    }

    private String ranking(int motions) {
        StringBuilder left = new StringBuilder("abcdef".substring(0, motions));
        StringBuilder ranking = new StringBuilder();
        while (left.length() > 0) {
            int at = random.nextInt(left.length());
            ranking.append(left.charAt(at));
            left.deleteCharAt(at);
        }
        return ranking.toString();
    }

    private void branch(StringBuilder text, int motions, int depth) {
        if (depth == 0 || random.nextInt(5) == 0) {
            text.append((char) ('a' + random.nextInt(motions)));
            return;
        }
        text.append('(');
        branch(text, motions, depth - 1);
        branch(text, motions, depth - 1);
        text.append(')');
    }

    private String blanked(String text) {
        StringBuilder blanked = new StringBuilder();
        for (int i = 0; i < text.length(); i++) {
            blanked.append(random.nextInt(5) == 0 ? " " : "").append(text.charAt(i));
        }
        return blanked.append(random.nextInt(2) == 0 ? " " : "").toString();
    }

    private String spoiled(String text) {
        String signs = "abcdefgnr();0123456789 xA";
        StringBuilder spoiled = new StringBuilder(text);
        int at = random.nextInt(text.length() + 1);
        char sign = signs.charAt(random.nextInt(signs.length()));
        int way = random.nextInt(4);
        if (way == 0) {
            spoiled.insert(at, sign);
        } else if (way == 1) {
            spoiled.setLength(at);
        } else if (at < text.length() && way == 2) {
            spoiled.setCharAt(at, sign);
        } else if (at < text.length()) {
            spoiled.deleteCharAt(at);
        }
        return spoiled.toString();
    }

    // ---- calls

    /** From -1 to the bound, both of which are wrong, but seldom. */
    private int near(int bound) {
        return random.nextInt(12) == 0 ? (random.nextBoolean() ? -1 : bound) : random.nextInt(Math.max(bound, 1));
    }

    private void anyCall() {
        switch (random.nextInt(24)) {
            case 0: case 1: case 2: case 3: nodeCall(); break;
            case 4: case 5: case 6: changeCall(); break;
            case 7: case 8: case 9: memberCall(); break;
            case 10: case 11: case 12: case 13: seeCall(); break;
            case 14: case 15: imageCall(); break;
            default: deskCall(); break;
        }
    }

    private int motions() {
        return model.count(0);
    }

    private int nodes() {
        return model.now(0);
    }

    private void nodeCall() {
        int k = near(nodes());
        int what = near(7);
        due("node(" + k + ", " + what + ")", desk.node(k, what), model.node(k, what));
    }

    private void deskCall() {
        int a = near(motions());
        int b = near(motions());
        int member = near(model.count(1));
        int what = near(6);
        int k = near(model.count(2));
        due("ranking(" + member + ", " + a + ")", desk.ranking(member, a), model.ranking(member, a));
        due("votes(" + a + ", " + b + ")", desk.votes(a, b), model.votes(a, b));
        due("now(" + what + ")", desk.now(what), model.now(what));
        due("count(" + what + ")", desk.count(what), model.count(what));
        due("order(" + k + ", " + a + ")", desk.order(k, a), model.order(k, a));
    }

    private void changeCall() {
        int member = near(model.count(1));
        int place = near(motions() - 1);
        int k = near(nodes());
        int order = near(model.count(2));
        switch (random.nextInt(6)) {
            case 0: case 1:
                due("ranks(" + member + ", " + place + ")", desk.ranks(member, place), model.ranks(member, place));
                break;
            case 2: case 3:
                due("swaps(" + k + ")", desk.swaps(k), model.swaps(k));
                break;
            case 4:
                due("sets(" + order + ")", desk.sets(order), model.sets(order));
                break;
            default:
                due("undo()", desk.undo(), model.undo());
                break;
        }
    }

    private void memberCall() {
        int motion = near(motions());
        int member = near(model.count(1));
        int way = near(2);
        int what = near(2);
        int x = near(11);
        switch (random.nextInt(4)) {
            case 0:
                due("reach(" + motion + ", " + way + ", " + what + ")",
                    desk.reach(motion, way, what), model.reach(motion, way, what));
                break;
            case 1:
                what = near(3);
                due("better(" + member + ", " + way + ", " + what + ")",
                    desk.better(member, way, what), model.better(member, way, what));
                break;
            case 2:
                due("won(" + motion + ", " + way + ", " + what + ")",
                    desk.won(motion, way, what), model.won(motion, way, what));
                break;
            default:
                due("odds(" + x + ", " + motion + ", " + way + ", " + what + ")",
                    desk.odds(x, motion, way, what), model.odds(x, motion, way, what));
                break;
        }
    }

    private void seeCall() {
        int k = near(nodes());
        int branch = near(2);
        int what = near(2);
        switch (random.nextInt(12)) {
            case 0:
                due("forget()", desk.forget(), model.forget());
                break;
            case 1: case 2: case 3: case 4:
                due("watch()", desk.watch(), model.watch());
                break;
            case 5: case 6: case 7:
                due("rankings(" + what + ")", desk.rankings(what), model.rankings(what));
                break;
            default:
                due("sees(" + k + ", " + branch + ")", desk.sees(k, branch), model.sees(k, branch));
                break;
        }
    }

    private void imageCall() {
        int image = near(2);
        if (random.nextInt(3) != 0) {
            due("keep(" + image + ")", desk.keep(image), model.keep(image));
        } else {
            due("back(" + image + ")", desk.back(image), model.back(image));
        }
    }
}
