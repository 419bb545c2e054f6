import java.util.ArrayList;
import java.util.List;

/**
 * All that can be seen of a desk, with what lies behind undo(), back() and desk(). The desk is used
 * up by it; of Desks.FULL it takes some 240 calls, so that all of them stay below 512.
 */
final class Look {
    private final MotionDesk desk;
    private final List<String> calls = new ArrayList<>();
    private final List<Integer> answers = new ArrayList<>();

    Look(MotionDesk desk) {
        this.desk = desk;
        all();
        for (int left = desk.now(5); left >= 0; left--) {
            add("undo()", desk.undo());
            some();
        }
        for (int image = 0; image < 2; image++) {
            add("back(" + image + ")", desk.back(image));
            some();
        }
        add("desk()", desk.desk());
        some();
    }

    /** Every answer of this look is due to be that of the other one. */
    void dueAs(Look other, Check check, String behind) {
        check.due(behind + ", then answers", answers.size(), other.answers.size());
        for (int i = 0; i < Math.min(answers.size(), other.answers.size()); i++) {
            check.due(behind + ", then " + other.calls.get(i), answers.get(i), other.answers.get(i));
        }
    }

    private void add(String call, int answer) {
        calls.add(call);
        answers.add(answer);
    }

    private void all() {
        int motions = desk.count(0);
        int members = desk.count(1);
        int nodes = desk.now(0);
        counts();
        for (int member = 0; member < members; member++) {
            ranking(member, motions);
        }
        for (int k = 0; k < nodes; k++) {
            for (int what = 0; what < 7; what++) {
                add("node(" + k + ", " + what + ")", desk.node(k, what));
            }
        }
        for (int a = 0; a < motions; a++) {
            for (int b = 0; b < a; b++) {
                add("votes(" + a + ", " + b + ")", desk.votes(a, b));
            }
        }
        add("rankings(0)", desk.rankings(0));
        add("rankings(1)", desk.rankings(1));
        add("watch()", desk.watch());
    }

    private void counts() {
        for (int what = 0; what < 5; what++) {
            add("count(" + what + ")", desk.count(what));
        }
        for (int what = 0; what < 6; what++) {
            add("now(" + what + ")", desk.now(what));
        }
    }

    private void some() {
        int nodes = desk.now(0);
        ranking(0, desk.count(0));
        for (int k = 0; k < nodes; k++) {
            add("node(" + k + ", 0)", desk.node(k, 0));
        }
    }

    private void ranking(int member, int motions) {
        for (int place = 0; place < motions; place++) {
            add("ranking(" + member + ", " + place + ")", desk.ranking(member, place));
        }
    }
}
