public final class FaceTest {
    public static void main(String[] args) {
        Due.is("NONE", -1, RodBench.NONE);
        Due.end();
    }
}
