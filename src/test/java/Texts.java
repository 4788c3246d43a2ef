/** Parts of texts for the tape. */
final class Texts {
    private Texts() {
    }

    /** CELLS a, b, .. , each with what is told behind its NAME. */
    static String cells(int many, String told) {
        StringBuilder text = new StringBuilder();
        for (int i = 0; i < many; i++) {
            text.append("cell ").append((char) ('a' + i)).append(told).append(';');
        }
        return text.toString();
    }

    /** SECRETS sa, sb, .. */
    static String secrets(int many, int letters) {
        StringBuilder text = new StringBuilder();
        for (int i = 0; i < many; i++) {
            text.append("secret s").append((char) ('a' + i)).append(" letters ").append(letters).append(';');
        }
        return text.toString();
    }

    /** PAGES pa, pb, .. */
    static String pages(int many, int room) {
        StringBuilder text = new StringBuilder();
        for (int i = 0; i < many; i++) {
            text.append("page p").append((char) ('a' + i)).append(" room ").append(room).append(';');
        }
        return text.toString();
    }

    /** A CELL KNOWS the first SECRETS. */
    static String knows(char cell, int many) {
        StringBuilder text = new StringBuilder();
        for (int i = 0; i < many; i++) {
            text.append("knows ").append(cell).append(" s").append((char) ('a' + i)).append(';');
        }
        return text.toString();
    }

    /** READ of the first PAGES by these sixteenths. */
    static String read(int... odds) {
        StringBuilder text = new StringBuilder();
        for (int i = 0; i < odds.length; i++) {
            text.append("read p").append((char) ('a' + i)).append(" odds ").append(odds[i]).append(';');
        }
        return text.toString();
    }

    /** A TRAY of these numbers. */
    static void lay(MarginPlan x, int tray, int sort, long... numbers) {
        x.tray(tray, sort, numbers.length);
        for (int i = 0; i < numbers.length; i++) {
            x.write(tray, i, numbers[i]);
        }
    }

    /** A TRAY of letters, a as 1. */
    static void word(MarginPlan x, int tray, String letters) {
        x.tray(tray, 0, letters.length());
        for (int i = 0; i < letters.length(); i++) {
            x.write(tray, i, letters.charAt(i) - 'a' + 1);
        }
    }
}
