import java.util.ArrayList;
import java.util.List;
import java.util.function.Supplier;
import java.util.function.ToLongFunction;

/** Promises 6 to 15: these calls only answer, so no later call shows that one of them was made. */
public final class QuestionsTest {
    private record Question(String name, ToLongFunction<SendTable> call) {
    }

    public static void main(String[] args) {
        Due.test("a small tree", () -> askedInTwos(Boundary::five, 5));
        Due.test("the longest chain", () -> askedInTwos(Boundary::chain, 10));
        Due.test("selectors understood alone", () -> askedInTwos(QuestionsTest::alone, 3));
        Due.test("classes that understand nothing", () -> askedInTwos(Boundary::bare, 5));
        Due.end();
    }

    /** Selector 7 is understood alone, 0 with 1 and 1 with 2, and the others by no class. */
    private static SendTable alone() {
        return Due.roots(0b10000000, 0b00000011, 0b00000110);
    }

    /** A new table for every two, since further questions between them could hide what the first one did. */
    private static void askedInTwos(Supplier<SendTable> made, int classes) {
        List<Question> questions = questions(classes);
        for (Question later : questions) {
            long due = later.call.applyAsLong(made.get());
            for (Question earlier : questions) {
                SendTable x = made.get();
                earlier.call.applyAsLong(x);
                Due.is(later.name + " after " + earlier.name, later.call.applyAsLong(x), due);
            }
            Boundary.changesNothing(later.name, made, later.call, due);
        }
    }

    private static List<Question> questions(int classes) {
        List<Question> all = new ArrayList<>();
        all.add(new Question("classes()", SendTable::classes));
        all.add(new Question("crowd()", SendTable::crowd));
        all.add(new Question("colours()", SendTable::colours));
        for (int i = 0; i < 8; i++) {
            int s = i;
            all.add(new Question("apart(" + s + ")", x -> x.apart(s)));
        }
        for (int i = 0; i < classes; i++) {
            addOfClass(all, i);
        }
        return all;
    }

    private static void addOfClass(List<Question> all, int c) {
        all.add(new Question("parent(" + c + ")", x -> x.parent(c)));
        all.add(new Question("understands(" + c + ")", x -> x.understands(c)));
        for (int i = 0; i < 8; i++) {
            int s = i;
            String at = "(" + c + ", " + s + ")";
            all.add(new Question("send" + at, x -> x.send(c, s)));
            all.add(new Question("sendSuper" + at, x -> x.sendSuper(c, s)));
            all.add(new Question("owner" + at, x -> x.owner(c, s)));
            all.add(new Question("heirs" + at, x -> x.heirs(c, s)));
        }
    }
}
