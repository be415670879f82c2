import java.util.ArrayList;
import java.util.List;
import java.util.function.Supplier;

/** All that can be seen of an object but its refusals. A look may change it: each is at a new twin. */
final class Looks {
    private final List<Integer> seen = new ArrayList<>();

    private Looks() {
    }

    static List<Integer> at(Supplier<WhoseHourItIs> twins) {
        Looks looks = new Looks();
        looks.told(twins.get());
        looks.hours(twins.get());
        for (int work = 0; work < twins.get().count(1); work++) {
            looks.leaves(twins.get(), work);
        }
        looks.settings(twins.get());
        looks.row(twins.get(), 0);
        looks.row(twins.get(), 1);
        looks.tape(twins.get());
        looks.image(twins.get());
        return looks.seen;
    }

    private void told(WhoseHourItIs x) {
        for (int what = 0; what <= 6; what++) {
            seen.add(x.count(what));
        }
        for (int holder = 0; holder < x.count(0); holder++) {
            for (int what = 0; what <= 4; what++) {
                seen.add(x.holder(holder, what));
            }
            seen.add(x.wedTo(holder));
        }
        for (int work = 0; work < x.count(1); work++) {
            for (int what = 0; what <= 5; what++) {
                seen.add(x.work(work, what));
            }
        }
    }

    private void hours(WhoseHourItIs x) {
        for (int hour = 0; hour < 28; hour++) {
            for (int i = -1; i <= 2; i++) {
                seen.add(x.hour(hour, i));
            }
        }
    }

    /** A BELL's SORT is seen here alone. */
    private void leaves(WhoseHourItIs x, int work) {
        seen.add(x.one(work));
        for (int holder = 0; holder < x.count(0); holder++) {
            for (int hour = 0; hour < 28; hour++) {
                seen.add(x.leave(work, holder, hour));
            }
        }
    }

    private void settings(WhoseHourItIs x) {
        seen.add(x.strike(0));
        seen.add(x.bell(-1, 0));
        for (int season = 0; season < 4; season++) {
            seen.add(x.season(season, 0));
        }
    }

    private void row(WhoseHourItIs x, int what) {
        seen.add(x.judge(what));
        seen.add(x.count(5));
    }

    private void tape(WhoseHourItIs x) {
        seen.add(x.town());
        told(x);
    }

    private void image(WhoseHourItIs x) {
        seen.add(x.on());
        told(x);
        settings(x);
    }
}
