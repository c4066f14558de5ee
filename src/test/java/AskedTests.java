import java.util.ArrayList;
import java.util.List;
import java.util.function.Supplier;
import java.util.function.ToLongFunction;

/**
 * What is asked changes nothing: neither what can be seen of a town, nor what is asked behind it; and a call that
 * changes one thing changes no other.
 */
public final class AskedTests {
    private static final Check CHECK = new Check("AskedTests");
    private static final List<String> NAMES = new ArrayList<>();
    private static final List<ToLongFunction<LakeBooks>> ASKED = new ArrayList<>();

    public static void main(String[] args) {
        listDays();
        listTheRest();
        List<Supplier<LakeBooks>> towns = List.of(Town::made, Town::full, Town::poor, Town::texted, LakeBooks::new);
        for (Supplier<LakeBooks> town : towns) {
            String untouched = Town.whole(town.get());
            for (int i = 0; i < ASKED.size(); i++) {
                LakeBooks x = town.get();
                long first = ASKED.get(i).applyAsLong(x);
                CHECK.due(NAMES.get(i) + " asked again", ASKED.get(i).applyAsLong(x), first);
                CHECK.same(NAMES.get(i) + " changes nothing", Town.whole(x), untouched);
            }
            inAnyOrder(town);
        }
        othersStay();
        wrongLawAndImage();
        CHECK.end();
    }

    private static void ask(String name, ToLongFunction<LakeBooks> call) {
        NAMES.add(name);
        ASKED.add(call);
    }

    private static void listDays() {
        ask("wells(1)", x -> x.wells(1));
        ask("on(40, 0)", x -> x.on(40, 0));
        ask("on(40, 1)", x -> x.on(40, 1));
        ask("on(40, 2)", x -> x.on(40, 2));
        ask("on(40, 10)", x -> x.on(40, 10));
        ask("on(0, 1)", x -> x.on(0, 1));
        ask("dry()", LakeBooks::dry);
        ask("lowest(40)", x -> x.lowest(40));
        ask("ruined(0)", x -> x.ruined(0));
        ask("ruined(999)", x -> x.ruined(999));
        ask("may(0, 12)", x -> x.may(0, 12));
        ask("may(4, 1)", x -> x.may(4, 1));
        ask("enough(1, 20)", x -> x.enough(1, 20));
        ask("enough(0, 999)", x -> x.enough(0, 999));
        ask("lifted()", LakeBooks::lifted);
        ask("without(0, 40)", x -> x.without(0, 40));
        ask("without(2, 1)", x -> x.without(2, 1));
        ask("wells(10)", x -> x.wells(10));
        ask("share(1, 40, 0)", x -> x.share(1, 40, 0));
        ask("share(1, 40, 1)", x -> x.share(1, 40, 1));
        ask("richest(40)", x -> x.richest(40));
        ask("hidden(0, 0)", x -> x.hidden(0, 0));
        ask("hidden(0, 1)", x -> x.hidden(0, 1));
        ask("hidden(3, 1)", x -> x.hidden(3, 1));
        ask("whose()", LakeBooks::whose);
        ask("odds(20, 0)", x -> x.odds(20, 0));
        ask("odds(20, 1)", x -> x.odds(20, 1));
        ask("mean(40, 0)", x -> x.mean(40, 0));
        ask("mean(40, 1)", x -> x.mean(40, 1));
        ask("planned(0)", x -> x.planned(0));
        ask("planned(1)", x -> x.planned(1));
    }

    private static void listTheRest() {
        ask("volume(60)", x -> x.volume(60));
        ask("of(0, 6)", x -> x.of(0, 6));
        ask("of(1, 7)", x -> x.of(1, 7));
        ask("told(3)", x -> x.told(3));
        ask("told(7)", x -> x.told(7));
        ask("looked()", LakeBooks::looked);
        ask("judge(2, 0)", x -> x.judge(2, 0));
        ask("trace(3)", x -> x.trace(3));
        ask("taken(0, 1)", x -> x.taken(0, 1));
        ask("count(6)", x -> x.count(6));
        ask("read(3, 1)", x -> x.read(3, 1));
    }

    /** Each behind each other one answers as if it were asked alone. */
    private static void inAnyOrder(Supplier<LakeBooks> town) {
        for (int i = 0; i < ASKED.size(); i++) {
            long alone = ASKED.get(i).applyAsLong(town.get());
            LakeBooks x = town.get();
            for (int j = 0; j < ASKED.size(); j++) {
                ASKED.get(j).applyAsLong(x);
                CHECK.due(NAMES.get(i) + " behind " + NAMES.get(j), ASKED.get(i).applyAsLong(x), alone);
            }
        }
    }

    /** What a call changes is changed back by a second one: then all is as it was. */
    private static void othersStay() {
        String untouched = Town.whole(Town.made());
        back(untouched, "area", x -> x.area(4, x.area(4, 20)));
        back(untouched, "water", x -> x.water(x.water(0)));
        back(untouched, "set BUCKETS", x -> x.set(1, 0, x.set(1, 0, -999)));
        back(untouched, "set DAILY", x -> x.set(2, 1, x.set(2, 1, -30)));
        back(untouched, "set STONES", x -> x.set(0, 2, x.set(0, 2, 20)));
        back(untouched, "row", x -> x.row(1, 1, x.row(1, 1, 0)));
        back(untouched, "item", x -> {
            long was = x.read(3, 1);
            return x.item(3, 1, 5) + x.item(3, 1, was);
        });
        back(untouched, "tape", x -> x.tape(5, 3, 60) + x.tape(5, -1, 0));
        back(untouched, "none shifted", x -> x.shift(1, 3, 1, 3, 0));
        back(untouched, "shifted to where it was", x -> x.shift(1, 0, 1, 0, 3));
        back(untouched, "act", x -> x.act(0, 2, 9) + x.act(1, 2, 5));
    }

    /** A wrong law empties THE TEXT and changes nothing else; an image that is taken cannot be seen. */
    private static void wrongLawAndImage() {
        for (String sign : new String[] {"x", "0 ", ";", "1;floor 3;rate 2;sun 1 a=0;spring 9 d<9;!"}) {
            LakeBooks x = Town.made();
            Check.feed(x, sign);
            CHECK.holds("law() of mark 7" + sign, x.law() <= -10);
            Check.feed(x, "mark 7");
            CHECK.same("a wrong law changes nothing else", Town.whole(x), Town.whole(Town.made()));
        }
        LakeBooks x = Town.made();
        x.image();
        CHECK.same("image() changes nothing that is seen", Town.seen(x), Town.seen(Town.made()));
        LakeBooks y = Town.made();
        y.image();
        y.undo();
        CHECK.same("undo() of what stands changes nothing", Town.seen(y), Town.seen(Town.made()));
    }

    private static void back(String untouched, String name, ToLongFunction<LakeBooks> calls) {
        LakeBooks x = Town.made();
        calls.applyAsLong(x);
        CHECK.same(name + " changes one thing only", Town.whole(x), untouched);
    }
}
