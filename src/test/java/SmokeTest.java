public final class SmokeTest {
    public static void main(String[] args) {
        LanternHall x = new LanternHall();
        Check.same("count(0)", x.count(0), 8);
        Check.end("SmokeTest");
    }
}
