/** What the tests share: counting wrong answers, and typing a text in words of eight. */
final class Check {
    private int calls = 0;
    private int wrong = 0;

    void due(String call, long got, long want) {
        calls++;
        if (got != want) {
            wrong++;
            System.out.println(call + " answered " + got + ", due is " + want);
        }
    }

    void due(String call, boolean got, boolean want) {
        due(call, got ? 1 : 0, want ? 1 : 0);
    }

    void end() {
        System.out.println(wrong == 0 ? calls + " answers are as due" : wrong + " of " + calls + " answers are not as due");
        if (wrong != 0) {
            System.exit(1);
        }
    }

    /** The text becomes the module: how many programs, NONE if module() throws. */
    static int load(SignalHouse house, String text) {
        if (!typed(house, text)) {
            throw new IllegalStateException("type() refused " + text);
        }
        return module(house);
    }

    static int module(SignalHouse house) {
        try {
            return house.module();
        } catch (IllegalArgumentException e) {
            return SignalHouse.NONE;
        }
    }

    static boolean typed(SignalHouse house, String text) {
        boolean all = true;
        for (int i = 0; i < text.length(); i += 8) {
            String part = text.substring(i, Math.min(text.length(), i + 8));
            all &= house.type(word(part), part.length());
        }
        return all;
    }

    static long word(String part) {
        long word = 0;
        for (int i = 0; i < part.length(); i++) {
            word = word << 8 | part.charAt(i);
        }
        return word;
    }

    static SignalHouse house(String text) {
        SignalHouse house = new SignalHouse();
        if (load(house, text) == SignalHouse.NONE) {
            throw new IllegalStateException("fault " + house.fault(0) + " at " + house.fault(1) + " of " + text);
        }
        return house;
    }
}
