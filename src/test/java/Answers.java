import java.util.ArrayList;
import java.util.List;
import java.util.function.Supplier;
import java.util.function.ToLongFunction;

/** All that an object can be asked, so that two of them can be held side by side. */
final class Answers {
    private static final int MOST_POINTS = 32, MOST_PARTS = 63;
    // An object may be asked 512 times in all; the rest is left for making it.
    private static final int CALLS = 400;
    private static final int[] PLACES = {-Shapes.FAR, -3, 0, 5, 10, Shapes.FAR};
    private static final List<Question> QUESTIONS = questions();
    private static final List<Question> POINTS = pointQuestions();

    record Question(String call, ToLongFunction<LiveHull> asked) { }

    record Answer(String call, long told) { }

    private Answers() { }

    static List<Answer> all(Supplier<LiveHull> made) {
        List<Answer> answers = new ArrayList<>();
        ask(made, QUESTIONS, "", answers);
        LiveHull hull = made.get();
        answers.add(new Answer("the next ID", hull.add(777, 7)));
        for (int n = 0; n < 2; n++) {
            int image = n;
            String call = "restore(" + n + ")";
            answers.add(new Answer(call, made.get().restore(n)));
            ask(() -> restored(made, image), POINTS, call + ", ", answers);
        }
        return answers;
    }

    private static LiveHull restored(Supplier<LiveHull> made, int image) {
        LiveHull hull = made.get();
        hull.restore(image);
        return hull;
    }

    private static void ask(Supplier<LiveHull> made, List<Question> questions, String ahead,
            List<Answer> answers) {
        LiveHull hull = null;
        for (int k = 0; k < questions.size(); k++) {
            if (k % CALLS == 0) hull = made.get();
            Question question = questions.get(k);
            answers.add(new Answer(ahead + question.call, question.asked.applyAsLong(hull)));
        }
    }

    private static List<Question> questions() {
        List<Question> list = pointQuestions();
        list.add(new Question("area()", hull -> hull.area()));
        list.add(new Question("round(-1)", hull -> hull.round(-1)));
        for (int k = 0; k < MOST_POINTS; k++) {
            int at = k;
            list.add(new Question("round(" + k + ")", hull -> hull.round(at)));
        }
        for (int part = 1; part <= MOST_PARTS; part++) {
            addPart(list, part);
        }
        for (int x : PLACES) {
            for (int y : PLACES) addPlace(list, x, y);
        }
        return list;
    }

    private static List<Question> pointQuestions() {
        List<Question> list = new ArrayList<>();
        for (int k = 0; k < 5; k++) {
            int what = k;
            list.add(new Question("told(" + k + ")", hull -> hull.told(what)));
        }
        for (int k = 0; k < MOST_POINTS; k++) {
            int at = k;
            list.add(new Question("ranked(" + k + ")", hull -> hull.ranked(at)));
            for (int w = 0; w < 5; w++) {
                int what = w;
                list.add(new Question("point(" + k + ", " + w + ")", hull -> hull.point(at, what)));
            }
        }
        return list;
    }

    private static void addPart(List<Question> list, int part) {
        for (int w = 0; w < 6; w++) {
            int what = w;
            list.add(new Question("part(" + part + ", " + w + ")", hull -> hull.part(part, what)));
        }
        for (int s = 0; s < 2; s++) {
            int side = s;
            String with = "(" + part + ", " + s + ", ";
            for (int e = 0; e < 2; e++) {
                int end = e;
                list.add(new Question("bridge" + with + e + ")", hull -> hull.bridge(part, side, end)));
            }
            for (int k = 0; k < 4; k++) {
                int at = k;
                list.add(new Question("chain" + with + k + ")", hull -> hull.chain(part, side, at)));
            }
        }
    }

    private static void addPlace(List<Question> list, int x, int y) {
        String with = "(" + x + ", " + y;
        list.add(new Question("extreme" + with + ")", hull -> hull.extreme(x, y)));
        list.add(new Question("where" + with + ")", hull -> hull.where(x, y)));
        list.add(new Question("touch" + with + ", 0)", hull -> hull.touch(x, y, 0)));
        list.add(new Question("touch" + with + ", 1)", hull -> hull.touch(x, y, 1)));
    }
}
