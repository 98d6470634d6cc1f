import java.util.ArrayList;
import java.util.List;

/** What an object answers to all that can be asked of its PARISH. */
final class Answers {
    private final List<String> calls = new ArrayList<>();
    private final List<Long> answers = new ArrayList<>();
    private final TeethingParish x;

    private Answers(TeethingParish x) {
        this.x = x;
        x.row(0, 0, 0);
        ofNumbers();
        ofNothing();
        for (int person = 0; person < x.count(7); person++) {
            ofPerson(person);
        }
        for (int night = 0; night < x.count(0); night++) {
            ofNight(night);
        }
        ofRules();
        ofTwo();
    }

    static Answers of(TeethingParish x) {
        return new Answers(x);
    }

    /** Another object that was told the same answers the same, whatever either was asked ahead. */
    static void same(String why, TeethingParish x, String text) {
        Answers got = of(x);
        Answers want = of(Edges.told(text));
        Edges.due(why + ", how many answers", got.answers.size(), want.answers.size());
        for (int i = 0; i < Math.min(got.answers.size(), want.answers.size()); i++) {
            Edges.due(why + ", " + got.calls.get(i), got.answers.get(i), want.answers.get(i));
        }
    }

    /** What was asked first is answered the same when all else was asked behind it. */
    static void stay(String why, TeethingParish x) {
        Answers first = of(x);
        Answers again = of(x);
        for (int i = 0; i < first.answers.size(); i++) {
            Edges.due(why + ", again " + first.calls.get(i), again.answers.get(i), first.answers.get(i));
        }
    }

    private void add(String call, long answer) {
        calls.add(call);
        answers.add(answer);
    }

    private void ofNumbers() {
        for (int what = 0; what < 8; what++) {
            add("count(" + what + ")", x.count(what));
        }
        add("count(9)", x.count(9));
        for (int n = 1; n < 4; n++) {
            add("when(" + n + ")", x.when(n));
            add("mild(" + 9 * n + ")", x.mild(9 * n));
            add("room(" + 30 * n + ")", x.room(30 * n));
            add("drawn(" + n + ", 0)", x.drawn(n, 0));
            add("drawn(" + n + ", 1)", x.drawn(n, 1));
            int set = (1 << x.count(7)) - n;
            add("costs(" + set + ")", x.costs(set));
            add("nights(" + set + ")", x.nights(set));
            add("kinder(" + set + ")", x.kinder(set));
        }
        add("mean(0)", x.mean(0));
        add("mean(1)", x.mean(1));
        add("whose(0)", x.whose(0));
        add("fits(0)", x.fits(0));
        add("ask(0)", x.ask(0));
        add("leaves(0)", x.leaves(0));
        add("fair(0)", x.fair(0));
        add("leave(0)", x.leave(0));
    }

    private void ofNothing() {
        add("all()", x.all());
        add("worst()", x.worst());
        add("crowded()", x.crowded());
        add("feast()", x.feast());
        add("paid()", x.paid());
        add("quiet()", x.quiet());
        add("kept()", x.kept());
        add("idle()", x.idle());
        add("last()", x.last());
        add("wide()", x.wide());
        add("regret()", x.regret());
        add("spoons()", x.spoons());
        add("lonely()", x.lonely());
        add("least()", x.least());
        add("ways()", x.ways());
        add("rule()", x.rule());
        add("proof()", x.proof());
        add("pairs()", x.pairs());
    }

    private void ofPerson(int person) {
        for (int what = 0; what < 4; what++) {
            add("person(" + person + ", " + what + ")", x.person(person, what));
        }
        add("gives(" + person + ")", x.gives(person));
        add("bears(" + person + ")", x.bears(person));
        add("suits(" + person + ")", x.suits(person));
        add("gap(" + person + ")", x.gap(person));
        add("without(" + person + ")", x.without(person));
        add("blocks(" + person + ")", x.blocks(person));
        add("share(" + person + ", 0)", x.share(person, 0));
        add("share(" + person + ", 1)", x.share(person, 1));
        add("plan(" + person + ")", x.plan(person));
        add("groan(" + person + ")", x.groan(person));
        add("bearer(" + person + ")", x.bearer(person));
        add("luck(1, 20, " + person + ")", x.luck(1, 20, person));
    }

    private void ofNight(int night) {
        add("given(" + night + ")", x.given(night));
        add("waits(" + night + ")", x.waits(night));
        add("left(" + night + ")", x.left(night));
        add("groans(" + night + ")", x.groans(night));
        add("holds(" + night + ")", x.holds(night));
        add("cut(" + night + ")", x.cut(night));
        add("big(" + night + ")", x.big(night));
        add("late(" + night + ")", x.late(night));
        add("born(" + night + ", 0)", x.born(night, 0));
    }

    private void ofRules() {
        for (int rule = 0; rule < 4; rule++) {
            add("by(" + rule + ")", x.by(rule));
            add("tempts(" + rule + ")", x.tempts(rule));
        }
    }

    private void ofTwo() {
        for (int n = 0; n < 4; n++) {
            add("rests(0, " + n + ")", x.rests(0, n));
            add("rest(0, " + n + ")", x.rest(0, n));
            add("holding(0, " + n + ", 3, 1)", x.holding(0, n, 3, 1));
            add("holding(0, " + n + ", 0, 0)", x.holding(0, n, 0, 0));
        }
    }
}
