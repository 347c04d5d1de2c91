public final class PromisesTest {
    public static void main(String[] args) {
        Calls.run("count(0)=0");
        Calls.end();
    }
}
