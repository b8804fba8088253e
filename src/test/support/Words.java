/** Calls and answers as words: "put 10 0" and "-3"; MIN and MAX are the least and the greatest int. */
public final class Words {
    private Words() {
    }

    private static int number(String word) {
        return word.equals("MIN") ? Integer.MIN_VALUE : word.equals("MAX") ? Integer.MAX_VALUE : Integer.parseInt(word);
    }

    /** A number, NOTHING, or the name of what was thrown. */
    public static String answer(Face face, String call) {
        String[] words = call.split(" ");
        int[] n = new int[4];
        for (int k = 1; k < words.length; k++) {
            n[k - 1] = number(words[k]);
        }
        try {
            long answer = answer(face, words[0], n);
            return answer == Long.MIN_VALUE ? "NOTHING" : Long.toString(answer);
        } catch (ArithmeticException e) {
            // The class must throw by itself where the document says so, not by a division of the machine's.
            return "/ by zero".equals(e.getMessage()) ? "a division by 0" : "ArithmeticException";
        } catch (IndexOutOfBoundsException | NullPointerException | ClassCastException | NegativeArraySizeException e) {
            return e.getClass().getName();
        }
    }

    private static long answer(Face face, String name, int[] n) {
        switch (name) {
            case "job":
                return face.job(n[0], n[1], n[2]);
            case "step":
                return face.step(n[0], n[1], n[2]);
            case "change":
                return face.change(n[0], n[1], n[2], n[3]);
            case "put":
                return face.put(n[0], n[1]);
            case "take":
                return face.take(n[0]);
            case "swap":
                return face.swap(n[0], n[1]);
            case "at":
                return face.at(n[0], n[1]);
            case "fill":
                return face.fill(n[0]);
            case "state":
                return face.state();
            case "when":
                return face.when(n[0], n[1]);
            case "span":
                return face.span();
            case "late":
                return face.late();
            case "swapped":
                return face.swapped(n[0], n[1]);
            case "better":
                return face.better();
            case "part":
                return face.part(n[0], n[1]);
            case "bound":
                return face.bound(n[0]);
            case "low":
                return face.low();
            case "share":
                return face.share();
            default:
                throw new IllegalStateException("the test itself calls " + name);
        }
    }
}
