/**
 * The class under test with its calls counted: what an object answers behind its 512th call is free, so that a
 * test which goes there would test nothing that the document says.
 */
final class Counted {
    static final int MOST_CALLS = 512;

    private final EachSeesTheNext x = new EachSeesTheNext();
    private int made;

    private EachSeesTheNext next() {
        made++;
        if (made > MOST_CALLS) {
            throw new IllegalStateException("a test makes more than " + MOST_CALLS + " calls on one object");
        }
        return x;
    }

    int made() {
        return made;
    }

    int letter(int c) {
        return next().letter(c);
    }

    int land() {
        return next().land();
    }

    int house(int house, int what) {
        return next().house(house, what);
    }

    int height(int cell) {
        return next().height(cell);
    }

    int heaps(int cell, int v) {
        return next().heaps(cell, v);
    }

    int moves(int house, int cell) {
        return next().moves(house, cell);
    }

    int gives(int house, int v) {
        return next().gives(house, v);
    }

    int calls(int house) {
        return next().calls(house);
    }

    int fog(int v) {
        return next().fog(v);
    }

    int turn(int house, int kind, int figure) {
        return next().turn(house, kind, figure);
    }

    int nights(int n) {
        return next().nights(n);
    }

    int litThen(int n) {
        return next().litThen(n);
    }

    int hangThen(int n) {
        return next().hangThen(n);
    }

    int wicksThen(int house, int n) {
        return next().wicksThen(house, n);
    }

    int dark(int house) {
        return next().dark(house);
    }

    int first(int what) {
        return next().first(what);
    }

    int sees(int house) {
        return next().sees(house);
    }

    int hill(int one, int other) {
        return next().hill(one, other);
    }

    int leastEye(int house) {
        return next().leastEye(house);
    }

    int cut(int what) {
        return next().cut(what);
    }

    int build(int what) {
        return next().build(what);
    }

    int fell() {
        return next().fell();
    }

    int raise() {
        return next().raise();
    }

    int call(int n) {
        return next().call(n);
    }

    int news(int house, int what) {
        return next().news(house, what);
    }

    int farthest() {
        return next().farthest();
    }

    int spend(int n) {
        return next().spend(n);
    }

    int share(int n) {
        return next().share(n);
    }

    int longest(int n) {
        return next().longest(n);
    }

    int fogged() {
        return next().fogged();
    }

    int highest() {
        return next().highest();
    }

    int two(int a, int b) {
        return next().two(a, b);
    }

    long mist(int house, int n, int t, int part) {
        return next().mist(house, n, t, part);
    }

    long mean(int part) {
        return next().mean(part);
    }

    int whoSlept() {
        return next().whoSlept();
    }

    int whatIs(int house, int what) {
        return next().whatIs(house, what);
    }

    int row(int v) {
        return next().row(v);
    }

    int judge() {
        return next().judge();
    }

    int clear() {
        return next().clear();
    }

    int lots(int n, int z, int what) {
        return next().lots(n, z, what);
    }

    int image() {
        return next().image();
    }

    int on() {
        return next().on();
    }

    int count(int what) {
        return next().count(what);
    }
}
