/** Tells texts to the class as a person would: by letters. */
final class Told {
    private Told() {
    }

    /** A new object with a TEXT, of which nothing is read yet. */
    static FurnitureByFlood text(String text) {
        FurnitureByFlood x = new FurnitureByFlood();
        write(x, text);
        return x;
    }

    /** A new object with a TOWN. */
    static FurnitureByFlood town(String text) {
        FurnitureByFlood x = text(text);
        Check.holds("town() of " + text, x.town() >= 0);
        return x;
    }

    /** By eights, for an object is used for 512 calls at most. */
    static void write(FurnitureByFlood x, String text) {
        for (int place = 0; place < text.length(); place += 8) {
            int n = Math.min(8, text.length() - place);
            long v = 0;
            for (int i = 0; i < n; i++) {
                v = v << 8 | text.charAt(place + i);
            }
            x.write(n, v);
        }
    }

    /** Another TEXT in place of the one that is there. */
    static void rewrite(FurnitureByFlood x, String text) {
        x.wipe();
        write(x, text);
    }
}
