import java.util.List;
import java.util.Random;

/** Promises 4 to 6 on many texts, good ones and spoilt ones, compared with GoodTexts. */
public final class LoadReferenceTest {
    private final Random random = new Random(7);
    private final SomeTexts texts = new SomeTexts(random);

    public static void main(String[] args) {
        LoadReferenceTest test = new LoadReferenceTest();
        for (int k = 0; k < 4000 && Check.wrong() < 10; k++) {
            test.oneText();
        }
        Check.finish();
    }

    private void oneText() {
        int n = 3 + random.nextInt(random.nextInt(2) == 0 ? 2 : 6);
        String text = texts.make(n, random.nextInt(3));
        OneTreeTours x = new OneTreeTours();
        int want = GoodTexts.dueOfLoad(text);
        Check.due("load of\n" + text + "<<", want, Texts.loadInto(x, text));
        int[][] distance = want == 0 ? GoodTexts.read(List.of(text.split("\n"))) : new int[0][];
        Check.due("size", distance.length, x.size());
        for (int i = 0; i < distance.length; i++) {
            for (int j = 0; j < distance.length; j++) {
                Check.due("distance in\n" + text, distance[i][j], x.distance(i, j));
            }
        }
    }
}
