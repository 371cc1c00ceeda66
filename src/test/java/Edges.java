import java.util.ArrayList;
import java.util.List;
import java.util.function.Consumer;
import java.util.function.Supplier;
import java.util.function.ToIntFunction;

/**
 * Tests of boundary cases: each has words of the document that name its case, and answers of its
 * own. Words that do not stand in the document, under the heading told, are a failure, too.
 */
final class Edges {
    interface Call {
        int on(CommaChoir x, int[] numbers);
    }

    private final Document document;
    private final List<String> broken = new ArrayList<>();
    private int tests = 0;

    Edges(Document document) {
        this.document = document;
    }

    /** One boundary case: where its words stand, the words, what the test looks at. */
    void of(String heading, String words, String about, Consumer<Due> test) {
        tests++;
        String name = heading + " \"" + words + "\" " + about;
        Due due = new Due();
        due.is("stands in the document", document.marks(heading, words) ? 1 : 0, 1);
        int before = due.asked();
        try {
            test.accept(due);
        } catch (RuntimeException | StackOverflowError thrown) {
            due.is("threw " + thrown + ": is that due", 1, 0);
        }
        if (!due.isFaultless() || due.asked() == before) {
            broken.add(name);
            System.out.println("BROKEN: " + name);
        }
    }

    /**
     * A number of a call on Choirs.ready(), low to high: at both ends it is not BAD, outside it is.
     * The others stay as in right.
     */
    void range(String heading, String words, String about, Call call, int[] right, int place, int low, int high) {
        of(heading, words, about + ", " + low + " to " + high, due -> {
            for (int end : new int[] {low, high}) {
                int answer = call.on(Choirs.ready(), with(right, place, end));
                due.is(about + " " + end + " is BAD", answer == Due.BAD ? 1 : 0, 0);
            }
            for (int number : outside(low, high)) {
                refuses(due, about + " " + number, Choirs::ready, x -> call.on(x, with(right, place, number)),
                    Due.BAD);
            }
        });
    }

    private static int[] with(int[] right, int place, int number) {
        int[] numbers = right.clone();
        numbers[place] = number;
        return numbers;
    }

    /** Too small and too great, by 1, by far, and so that a cut to fewer bits would be right again. */
    private static int[] outside(int low, int high) {
        return new int[] {low - 1, high + 1, Integer.MIN_VALUE, Integer.MAX_VALUE, Integer.MIN_VALUE + low,
            low - 65536, low + 65536, low + (1 << 24), low + 256 * (high / 256 + 1), -high - 2};
    }

    /** The call is refused so, which is counted once, and nothing else becomes other by it. */
    static void refuses(Due due, String about, Supplier<CommaChoir> maker, ToIntFunction<CommaChoir> call, int why) {
        CommaChoir x = maker.get();
        CommaChoir twin = maker.get();
        int[] counted = refusals(x);
        due.is(about, call.applyAsInt(x), why);
        counted[Due.BAD - why]++;
        due.are(about + ", how often refused", refusals(x), counted);
        same(due, about, x, twin);
    }

    static int[] refusals(CommaChoir x) {
        return new int[] {x.told(0), x.told(1), x.told(2)};
    }

    /** Both are alike in all but how often they have refused: now, after their text, and all the way back. */
    static void same(Due due, String about, CommaChoir x, CommaChoir twin) {
        due.is(about + ", digest as if not called", calm(x), calm(twin));
        due.is(about + ", text as if not called", x.does(), twin.does());
        due.is(about + ", digest of what the text does", calm(x), calm(twin));
        for (int states = x.told(4); states > 0; states--) {
            due.is(about + ", back as if not called", x.back(), twin.back());
            due.is(about + ", digest of a state", calm(x), calm(twin));
        }
    }

    /** The digest without told(0) to told(2): they come first, so each weighs 31 to the power of all behind it. */
    static long calm(CommaChoir x) {
        int behind = 2 + 6 + 8 * x.count(0) + 6 * x.count(3) + 3 * x.count(2) + 4 * x.count(1);
        long weight = 1;
        for (int i = 0; i < behind; i++) {
            weight *= 31;
        }
        return x.digest() - weight * (x.told(2) + 31L * (x.told(1) + 31L * x.told(0)));
    }

    int tests() {
        return tests;
    }

    boolean areWhole() {
        return tests > 0 && broken.isEmpty();
    }
}
