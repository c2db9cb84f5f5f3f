/** A test whose class is not named as its file is: .ci/run must run such a test too. */
final class OtherNameTest {
    public static void main(String[] args) {
        int towns = new TourBounds(3).towns();
        System.out.println(towns == 3 ? "ran under another name" : "towns() answered " + towns + ", due is 3");
        if (towns != 3) {
            System.exit(1);
        }
    }
}
