import java.util.ArrayList;
import java.util.List;
import java.util.function.Predicate;
import java.util.function.ToIntFunction;

/** The model's reader: goes through the text sign by sign and throws at the first fault. */
final class ModelReader {
    static final class Fault extends Exception {
        private static final long serialVersionUID = 1L;
        final int number;
        final int place;

        Fault(int number, int place) {
            this.number = number;
            this.place = place;
        }
    }

    private static final List<String> FACTS =
            List.of("by", "out", "measure", "kind", "lets", "torn", "worn", "dirt", "next");

    private final String text;
    private final int actors;
    private int at = 0;
    /** The token that stands here: letters, digits or one sign; empty at the end. */
    private String token = "";
    private int place = 0;
    final List<Integer> minutes = new ArrayList<>();
    final List<Model.Wear> wears = new ArrayList<>();

    ModelReader(String text, int actors) {
        this.text = text;
        this.actors = actors;
        next();
    }

    private boolean matchesAt(int i, String pattern) {
        return i < text.length() && text.substring(i, i + 1).matches(pattern);
    }

    private void next() {
        while (matchesAt(at, "[ \n]")) {
            at++;
        }
        place = at;
        String pattern = matchesAt(at, "[a-zA-Z]") ? "[a-zA-Z]" : matchesAt(at, "[0-9]") ? "[0-9]" : "";
        if (pattern.isEmpty()) {
            at = Math.min(text.length(), at + 1);
        } else {
            while (matchesAt(at, pattern)) {
                at++;
            }
        }
        token = text.substring(place, at);
    }

    private Fault cannotStand() {
        return new Fault(1, place);
    }

    private boolean is(String... any) {
        return List.of(any).contains(token);
    }

    private String pass() {
        String was = token;
        next();
        return was;
    }

    private void pass(String wanted) throws Fault {
        if (!is(wanted)) {
            throw cannotStand();
        }
        next();
    }

    private int number() throws Fault {
        if (!token.matches("[0-9]{1,4}")) {
            throw cannotStand();
        }
        return Integer.parseInt(token);
    }

    List<Model.Line> law(List<String> words) throws Fault {
        List<Model.Line> lines = new ArrayList<>();
        while (place < text.length()) {
            if (!words.contains(token)) {
                throw cannotStand();
            }
            if (lines.size() == 16) {
                throw new Fault(3, place);
            }
            String word = pass();
            ToIntFunction<Model.Facts> e = e();
            Predicate<Model.Facts> b = f -> true;
            if (is("when")) {
                next();
                b = b(0);
            }
            pass(";");
            lines.add(new Model.Line(word, e, b));
        }
        return lines;
    }

    private Predicate<Model.Facts> b(int open) throws Fault {
        Predicate<Model.Facts> left = a(open);
        while (is("or")) {
            next();
            left = left.or(a(open));
        }
        return left;
    }

    private Predicate<Model.Facts> a(int open) throws Fault {
        Predicate<Model.Facts> left = c(open);
        while (is("and")) {
            next();
            left = left.and(c(open));
        }
        return left;
    }

    private Predicate<Model.Facts> c(int open) throws Fault {
        if (is("not", "(")) {
            if (open == 8) {
                throw new Fault(3, place);
            }
            if (pass().equals("not")) {
                return c(open + 1).negate();
            }
            Predicate<Model.Facts> in = b(open + 1);
            pass(")");
            return in;
        }
        ToIntFunction<Model.Facts> left = e();
        if (!is("<", "=", ">")) {
            throw cannotStand();
        }
        String sign = pass();
        ToIntFunction<Model.Facts> right = e();
        return f -> {
            int order = Integer.compare(left.applyAsInt(f), right.applyAsInt(f));
            return sign.equals("<") ? order < 0 : sign.equals(">") ? order > 0 : order == 0;
        };
    }

    private ToIntFunction<Model.Facts> e() throws Fault {
        ToIntFunction<Model.Facts> sum = t();
        while (is("+", "-")) {
            ToIntFunction<Model.Facts> left = sum;
            boolean plus = pass().equals("+");
            ToIntFunction<Model.Facts> right = t();
            sum = f -> plus ? left.applyAsInt(f) + right.applyAsInt(f) : left.applyAsInt(f) - right.applyAsInt(f);
        }
        return sum;
    }

    private ToIntFunction<Model.Facts> t() throws Fault {
        ToIntFunction<Model.Facts> product = u();
        while (is("*", "/")) {
            ToIntFunction<Model.Facts> left = product;
            if (pass().equals("*")) {
                ToIntFunction<Model.Facts> right = u();
                product = f -> left.applyAsInt(f) * right.applyAsInt(f);
            } else {
                int part = number();
                if (part == 0) {
                    throw new Fault(2, place);
                }
                next();
                product = f -> left.applyAsInt(f) / part;
            }
        }
        return product;
    }

    private ToIntFunction<Model.Facts> u() throws Fault {
        if (FACTS.contains(token)) {
            String fact = pass();
            return f -> f.get(fact);
        }
        int v = number();
        next();
        return f -> v;
    }

    void scenes() throws Fault {
        while (place < text.length()) {
            if (!is("scene")) {
                throw cannotStand();
            }
            if (minutes.size() == 6) {
                throw new Fault(3, place);
            }
            next();
            int n = number();
            if (n > 99) {
                throw new Fault(2, place);
            }
            next();
            List<Integer> there = new ArrayList<>();
            while (is("wear")) {
                wear(there);
            }
            pass(";");
            minutes.add(n);
        }
    }

    private void wear(List<Integer> there) throws Fault {
        if (wears.size() == 6) {
            throw new Fault(3, place);
        }
        next();
        int actor = number();
        if (actor >= actors) {
            throw new Fault(2, place);
        }
        if (there.contains(actor)) {
            throw new Fault(3, place);
        }
        there.add(actor);
        next();
        if (!Model.KINDS.contains(token)) {
            throw cannotStand();
        }
        wears.add(new Model.Wear(minutes.size(), actor, Model.KINDS.indexOf(pass())));
    }
}
