import java.util.Map;
import java.util.TreeMap;

/**
 * All that calls can tell of an object, part by part. Many looks change what they look at, so each
 * of them takes an object of its own, made anew and brought to where the call left it.
 */
final class Look {
    static final String TEXT = "the text";
    static final String CITIES = "the cities and distances";
    static final String MARKS = "the marks";
    static final String POTENTIALS = "the potentials";
    static final String TOUR = "the tour";
    static final String CASES = "the cases";
    static final String ANSWERS = "what follows from them";

    private final Scene scene;
    private final Call call;
    private StringBuilder told;

    private Look(Scene scene, Call call) {
        this.scene = scene;
        this.call = call;
    }

    static Map<String, String> behind(Scene scene, Call call) {
        Look look = new Look(scene, call);
        Map<String, String> parts = new TreeMap<>();
        parts.put(TEXT, look.text());
        parts.put(CITIES, look.cities());
        parts.put(MARKS, look.marks());
        parts.put(POTENTIALS, look.potentials());
        parts.put(TOUR, look.tour());
        parts.put(CASES, look.cases());
        parts.put(ANSWERS, look.answers());
        return parts;
    }

    private OneTreeTours begin() {
        told = new StringBuilder();
        return made();
    }

    private OneTreeTours made() {
        OneTreeTours x = scene.make();
        call.on(x);
        return x;
    }

    private void tell(long answer) {
        told.append(answer).append(' ');
    }

    private void tellCities(OneTreeTours x) {
        tell(x.size());
        for (int i = 0; i < x.size(); i++) {
            for (int j = 0; j < x.size(); j++) {
                tell(x.distance(i, j));
            }
        }
    }

    private void tellTour(OneTreeTours x) {
        for (int k = 0; k <= 8; k++) {
            tell(x.tour(k));
        }
    }

    private void tellCaseBounds(OneTreeTours x) {
        for (int k = 0; k <= 10; k++) {
            tell(x.caseBound(k));
        }
    }

    /** The text as it is, and how it would go on: with the end of a text, and with blanks. */
    private String text() {
        OneTreeTours x = begin();
        tell(x.load());
        tellCities(x);
        x = made();
        x.write(Texts.pack("EOF\n"));
        tell(x.load());
        tellCities(x);
        tell(Texts.room(made()));
        return told.toString();
    }

    private String cities() {
        tellCities(begin());
        return told.toString();
    }

    /** With all other marks taken away, whether all allowed tours have an edge, or none has. */
    private String marks() {
        int n = begin().size();
        int edge = 0;
        for (int i = 0; i < n; i++) {
            for (int j = i + 1; j < n; j++) {
                OneTreeTours x = made();
                unmarkAllBut(x, i, j);
                x.drop();
                x.add(1 << edge, 0);
                tell(Call.truth(x.covers()));
                x.drop();
                x.add(0, 1 << edge);
                tell(Call.truth(x.covers()));
                edge++;
            }
        }
        return told.toString();
    }

    private static void unmarkAllBut(OneTreeTours x, int kept, int other) {
        for (int i = 0; i < x.size(); i++) {
            for (int j = i + 1; j < x.size(); j++) {
                if (i != kept || j != other) {
                    x.mark(i, j, 0);
                }
            }
        }
    }

    private String potentials() {
        OneTreeTours x = begin();
        for (int city = 0; city <= 8; city++) {
            tell(x.potential(city));
        }
        return told.toString();
    }

    private String tour() {
        tellTour(begin());
        return told.toString();
    }

    /** The bounds of the cases, all cities as high, and then each of them higher by itself. */
    private String cases() {
        OneTreeTours x = begin();
        int n = x.size();
        for (int city = 0; city < n; city++) {
            x.lift(city, 0);
        }
        unmarkAllBut(x, 0, 0);
        tell(Call.truth(x.covers()));
        tellCaseBounds(x);
        for (int city = 1; city < n; city++) {
            x.lift(city, 50000);
            tellCaseBounds(x);
            x.lift(city, 0);
        }
        return told.toString();
    }

    private String answers() {
        OneTreeTours x = begin();
        tell(x.bound());
        for (int city = 0; city < 8; city++) {
            tell(x.degree(city));
        }
        tell(x.ties());
        tell(Call.truth(x.covers()));
        tellCaseBounds(x);
        for (int value = -20; value <= 300; value += 10) {
            tell(Call.truth(x.proves(value)));
        }
        tell(x.solve());
        tellTour(x);
        tell(x.improve());
        tellTour(x);
        tell(x.ascend(7));
        return told.toString();
    }
}
