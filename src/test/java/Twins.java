import java.util.function.Supplier;
import java.util.function.ToIntFunction;

/** Two objects made alike, of which one is asked something: what that has changed shows where they tell unlike things. */
final class Twins {
    private final Due due;
    private final String name;
    private final Supplier<MapDuty> make;

    Twins(Due due, String name, Supplier<MapDuty> make) {
        this.due = due;
        this.name = name;
        this.make = make;
    }

    /** The call answers so, and nothing has changed by it. */
    void unchanged(String call, ToIntFunction<MapDuty> asked, int answer) {
        MapDuty x = make.get();
        due.is(name + ": " + call, asked.applyAsInt(x), answer);
        due.same(name + ": what is behind " + call, Witness.of(x), Witness.of(make.get()));
    }

    /** The call is a survey() with such a fault: all but the letter of the fault is as it was. */
    void unchangedByFault(String text, int answer, int letter) {
        MapDuty x = make.get();
        Due.feed(x, text);
        due.is(name + ": survey() of '" + text + "'", x.survey(), answer);
        due.is(name + ": fault() of '" + text + "'", x.fault(), letter);
        due.same(name + ": what is behind '" + text + "'", Witness.withoutFault(x), Witness.withoutFault(make.get()));
    }
}
