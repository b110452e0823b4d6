/** One after the other, the promises of the document. */
public final class PromiseTest {
    public static void main(String[] args) {
        ForgetfulRider x = new ForgetfulRider();
        Told.due("count(0)", x.count(0), 0);
        Told.finish("PromiseTest");
    }
}
