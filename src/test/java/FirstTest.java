/** Stands in until the promises' own tests are written. */
public final class FirstTest {
    public static void main(String[] args) {
        BentShares x = new BentShares();
        if (x.count(0) != 0 || x.fault() != BentShares.NONE) {
            System.out.println("a new object has classes or a fault");
            System.exit(1);
        }
    }
}
