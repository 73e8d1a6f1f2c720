public final class KingsTest {
    public static void main(String[] args) {
        Due.is("count(0)", new KingsBalance().count(0), 0);
        Due.end("KingsTest");
    }
}
