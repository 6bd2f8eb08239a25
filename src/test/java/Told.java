/** Tells texts to the class as a person would: by letters. */
final class Told {
    private Told() {
    }

    /** A new object with a TEXT, of which nothing is read yet. */
    static FurnitureByFlood text(String text) {
        FurnitureByFlood x = new FurnitureByFlood();
        write(x, text);
        return x;
    }

    /** A new object with a TOWN. */
    static FurnitureByFlood town(String text) {
        FurnitureByFlood x = text(text);
        Check.holds("town() of " + text, x.town() >= 0);
        return x;
    }

    static void write(FurnitureByFlood x, String text) {
        for (int i = 0; i < text.length(); i++) {
            x.write(1, text.charAt(i));
        }
    }

    /** Another TEXT in place of the one that is there. */
    static void rewrite(FurnitureByFlood x, String text) {
        x.wipe();
        write(x, text);
    }
}
