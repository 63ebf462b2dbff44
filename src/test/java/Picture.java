import java.util.ArrayList;
import java.util.List;
import java.util.function.IntUnaryOperator;

/** What an object answers to every question, at chosen arguments; a picture takes CALLS calls. */
final class Picture {
    static final int CALLS = 93;
    private static final int[] CODES = {0, 1, 7, 490, 2401, 2793, 3156, 8379, 13948, 16806};
    private static final int[] SUMS = {0, 1, 2, 5, 6, 11, 19, 20};
    private static final int[] PLACES = {0, 1, 4, 5, 83, 167, 168};

    private final List<String> answers = new ArrayList<>();

    static List<String> of(HilbertBasis basis) {
        Picture picture = new Picture();
        picture.askAll(basis);
        Check.due("the calls of a picture", picture.answers.size(), CALLS);
        return picture.answers;
    }

    private void askAll(HilbertBasis basis) {
        answers.add("least() = " + basis.least());
        answers.add("longest() = " + basis.longest());
        answers.add("small() = " + basis.small());
        for (int i = -1; i <= 5; i++) {
            ask("weight", basis::weight, i);
            ask("using", basis::using, i);
        }
        askEach("code", basis::code, PLACES);
        askEach("balances", basis::balances, SUMS);
        askEach("isBalance", basis::isBalance, CODES);
        askEach("isLeast", basis::isLeast, CODES);
        askEach("fewest", basis::fewest, CODES);
        askEach("ways", basis::ways, CODES);
        askEach("inside", basis::inside, CODES);
        // A bad argument after the good ones: it, too, must answer the same each time.
        ask("code", basis::code, -1);
        ask("balances", basis::balances, -1);
        ask("balances", basis::balances, 21);
        ask("isBalance", basis::isBalance, -1);
        ask("isLeast", basis::isLeast, -1);
        ask("fewest", basis::fewest, -1);
        ask("ways", basis::ways, -1);
        ask("inside", basis::inside, -1);
        ask("isBalance", basis::isBalance, 16807);
        ask("fewest", basis::fewest, 16807);
        ask("inside", basis::inside, 16807);
    }

    private void askEach(String name, IntUnaryOperator question, int[] arguments) {
        for (int argument : arguments) {
            ask(name, question, argument);
        }
    }

    private void ask(String name, IntUnaryOperator question, int argument) {
        answers.add(name + "(" + argument + ") = " + question.applyAsInt(argument));
    }

    /** Prints the answers in which the two pictures differ. */
    static void same(String cause, List<String> got, List<String> want) {
        for (int k = 0; k < want.size(); k++) {
            Check.holds(cause + ": " + got.get(k) + ", due is " + want.get(k), got.get(k).equals(want.get(k)));
        }
    }
}
