/** Promise 1: a new object. */
final class StartTest {
    public static void main(String[] args) {
        WordYear x = new WordYear();
        int[] due = {0, 0, 0, 0, 0, 0, 1000, 0};
        for (int what = 0; what < due.length; what++) {
            Due.is("count(" + what + ") of a new one", x.count(what), due[what]);
        }
        for (int w = 0; w < 10; w++) {
            Due.is("count(10 + " + w + ") of a new one", x.count(10 + w), -1);
        }
        for (int s = 0; s < 4; s++) {
            Due.is("count(20 + " + s + ") of a new one", x.count(20 + s), 0);
        }
        for (int i = 0; i < 4; i++) {
            Due.is("lawIs(" + i + ", 0) of a new one", x.lawIs(i, 0), -1);
        }
        Due.is("NONE", WordYear.NONE, -1);
        WordYear other = new WordYear();
        x.word(0, 1, 1);
        x.strike(0);
        x.silence(3);
        Due.is("count(0) of another one", other.count(0), 0);
        Due.is("count(2) of another one", other.count(2), 0);
        Due.is("count(6) of another one", other.count(6), 1000);
        Due.end("StartTest");
    }
}
