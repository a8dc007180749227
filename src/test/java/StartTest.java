/** Promise 1: what a new object tells. */
final class StartTest {
    public static void main(String[] arguments) {
        Check check = new Check();
        SlideDeck deck = new SlideDeck();
        check.due("masters", deck.count(0), 1);
        check.due("slides", deck.count(1), 0);
        check.due("shapes", deck.count(2), 0);
        check.due("base of sheet 0", deck.base(0), -1);
        check.due("state", deck.state(), 0);
        check.due("states", deck.states(), 1);
        check.due("the tape is empty", deck.feed(65, 1), 1);
        check.due("errorAt", deck.errorAt(), -1);
        check.due("steps", deck.steps(), 0);
        check.due("overrides", deck.overrides(0), 0);
        check.due("painted", deck.painted(0), 0);
        check.badState("nothing is selected", deck, deck::group);
        check.noIndex("no sheet 1", deck, () -> deck.base(1));
        check.noIndex("no shape 0", deck, () -> deck.isSelected(0));
        check.end();
    }
}
