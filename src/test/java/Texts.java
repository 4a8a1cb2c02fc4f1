/** Texts that several tests need: long rows, many names, deep brackets. */
final class Texts {
    /** All words that are no names, as the document writes them. */
    static final String[] RESERVED = ("in out nothing pause halt emit sustain exit present then else end suspend"
            + " when loop each trap signal not and or await abort weak every do").split(" ");

    private Texts() {
    }

    static String times(String part, int many) {
        return part.repeat(many);
    }

    /** A part so many times, with something between. */
    static String row(String part, String between, int many) {
        return part + (between + part).repeat(many - 1);
    }

    /** So many names, with commas between: the same letters and a number. */
    static String names(String start, int many) {
        StringBuilder names = new StringBuilder();
        for (int i = 0; i < many; i++) {
            names.append(i == 0 ? "" : ",").append(start).append(i);
        }
        return names.toString();
    }

    /** Something in so many brackets. */
    static String bracketed(String within, int brackets) {
        return times("(", brackets) + within + times(")", brackets);
    }
}
