/** The edges that promises 7 to 10, 12 and 13 and their terms name, sentence by sentence. */
public final class TuneEdgeTest {
    private static final int MIN = Integer.MIN_VALUE, MAX = Integer.MAX_VALUE;
    private static final Check check = new Check();

    public static void main(String[] args) {
        eventPitchBounds();
        eventsFortyAtMost();
        eventHasOnePitch();
        pitchBounds();
        pitchThatItHas();
        pitchWithoutEvent();
        pitchesFourAtMost();
        pitchOrderOfRefusals();
        pitchIsOfTheLastEvent();
        bindUnknownEvents();
        bindPitchBounds();
        bindStringBounds();
        bindOrderOfRefusals();
        bindAnswersWhatWas();
        dropDownToNone();
        dropForgetsTheEvent();
        atBounds();
        boundBounds();
        check.end("TuneEdgeTest");
    }

    private static void eventPitchBounds() {
        check.sentence("7: OUTSIDE (PITCH 0 to 123)");
        FretHands x = new FretHands();
        int[] outside = {-1, 124, MIN, MAX};
        for (int pitch : outside) {
            check.due("event(" + pitch + ")", x.event(pitch), -2);
            check.due("told(3) behind it", x.told(3), 0);
        }
        check.due("event(0)", x.event(0), 0);
        check.due("event(123)", x.event(123), 1);
        check.due("at(0, 0)", x.at(0, 0), 0);
        check.due("at(1, 0)", x.at(1, 0), 123);
    }

    private static void eventsFortyAtMost() {
        check.sentence("7: its number; ROOM (40 EVENTS at most)");
        FretHands x = new FretHands();
        for (int e = 0; e < 40; e++) {
            check.due("event " + e, x.event(50 + e), e);
        }
        check.due("the 41st", x.event(100), -5);
        check.due("OUTSIDE ahead of ROOM", x.event(124), -2);
        check.due("OUTSIDE ahead of ROOM", x.event(-1), -2);
        check.due("told(3)", x.told(3), 40);
        for (int e = 0; e < 40; e++) {
            check.due("at(" + e + ", 0)", x.at(e, 0), 50 + e);
        }
        check.due("pitch() of the 40th", x.pitch(10), 2);
        x.drop();
        check.due("event() behind drop()", x.event(7), 39);
        check.due("the 41st again", x.event(8), -5);
    }

    private static void eventHasOnePitch() {
        check.sentence("7: An EVENT more with one PITCH");
        FretHands x = Check.withStrings(40);
        Check.chord(x, 50, 51, 52, 53);
        x.event(50);
        check.due("the same PITCH in another EVENT", x.at(1, 0), 50);
        check.due("no second PITCH", x.at(1, 1), -1);
        check.due("BOUND to none", x.bound(1, 0), -1);
        check.due("pitch(51)", x.pitch(51), 2);
    }

    private static void pitchBounds() {
        check.sentence("8: OUTSIDE (PITCH 0 to 123)");
        FretHands x = new FretHands();
        x.event(50);
        int[] outside = {-1, 124, MIN, MAX};
        for (int pitch : outside) {
            check.due("pitch(" + pitch + ")", x.pitch(pitch), -2);
            check.due("at(0, 1) behind it", x.at(0, 1), -1);
        }
        check.due("pitch(0)", x.pitch(0), 2);
        check.due("pitch(123)", x.pitch(123), 3);
        check.due("at(0, 1)", x.at(0, 1), 0);
        check.due("at(0, 2)", x.at(0, 2), 123);
    }

    private static void pitchThatItHas() {
        check.sentence("8: OUTSIDE (also one that it has)");
        FretHands x = new FretHands();
        x.event(80);
        x.event(50);
        int[] more = {51, 0, 123};
        for (int i = 0; i < more.length; i++) {
            check.due("pitch(50)", x.pitch(50), -2);
            check.due("pitch(" + more[i] + ")", x.pitch(more[i]), i + 2);
            check.due("pitch(" + more[i] + ") again", x.pitch(more[i]), -2);
        }
        x.drop();
        check.due("of the EVENT before, one that the dropped one had", x.pitch(51), 2);
        check.due("its own first one", x.pitch(80), -2);
        x.event(60);
        check.due("one that only another EVENT has", x.pitch(80), 2);
    }

    private static void pitchWithoutEvent() {
        check.sentence("8: STATE: there is no EVENT");
        FretHands x = new FretHands();
        check.due("of a new object", x.pitch(50), -4);
        check.due("OUTSIDE ahead of STATE", x.pitch(-1), -2);
        check.due("OUTSIDE ahead of STATE", x.pitch(124), -2);
        check.due("STATE with PITCH 0", x.pitch(0), -4);
        check.due("STATE with PITCH 123", x.pitch(123), -4);
        x.event(50);
        x.drop();
        check.due("behind drop(), with the PITCH that was there", x.pitch(50), -4);
        x.event(50);
        x.clear();
        check.due("behind clear()", x.pitch(51), -4);
        check.due("told(3)", x.told(3), 0);
    }

    private static void pitchesFourAtMost() {
        check.sentence("8: how many it has; ROOM: 4");
        FretHands x = new FretHands();
        x.event(50);
        for (int i = 2; i <= 4; i++) {
            check.due("pitch " + i, x.pitch(50 + i), i);
        }
        check.due("the fifth", x.pitch(60), -5);
        check.due("at(0, 3)", x.at(0, 3), 54);
        check.due("at(0, 4)", x.at(0, 4), -1);
        x.event(70);
        check.due("the next EVENT has room", x.pitch(60), 2);
        check.due("the first one stays", x.at(0, 3), 54);
    }

    private static void pitchOrderOfRefusals() {
        check.sentence("8: OUTSIDE, then STATE, then ROOM");
        FretHands x = new FretHands();
        Check.chord(x, 50, 51, 52, 53);
        check.due("OUTSIDE ahead of ROOM: below", x.pitch(-1), -2);
        check.due("OUTSIDE ahead of ROOM: above", x.pitch(124), -2);
        for (int pitch = 50; pitch <= 53; pitch++) {
            check.due("OUTSIDE ahead of ROOM: one that it has", x.pitch(pitch), -2);
        }
        check.due("ROOM alone", x.pitch(49), -5);
    }

    private static void pitchIsOfTheLastEvent() {
        check.sentence("8: A PITCH more of the last EVENT (the one that came first first)");
        FretHands x = new FretHands();
        x.event(60);
        Check.events(x, 38, 70);
        x.event(80);
        x.pitch(90);
        x.pitch(10);
        check.due("at(39, 0)", x.at(39, 0), 80);
        check.due("at(39, 1)", x.at(39, 1), 90);
        check.due("at(39, 2)", x.at(39, 2), 10);
        check.due("at(38, 1)", x.at(38, 1), -1);
        check.due("at(0, 1)", x.at(0, 1), -1);
    }

    private static void bindUnknownEvents() {
        check.sentence("9: UNKNOWN (an EVENT that there is not)");
        FretHands x = Check.withStrings(40);
        check.due("bind(0, 0, 0) without events", x.bind(0, 0, 0), -3);
        Check.events(x, 40, 45);
        int[] unknown = {-1, 40, MIN, MAX};
        for (int event : unknown) {
            check.due("bind(" + event + ", 0, 0)", x.bind(event, 0, 0), -3);
        }
        check.due("bind(39, 0, 0)", x.bind(39, 0, 0), -1);
        check.due("bind(0, 0, 0)", x.bind(0, 0, 0), -1);
        x.drop();
        check.due("bind(39, 0, 0) behind drop()", x.bind(39, 0, 0), -3);
        check.due("bind(38, 0, 0)", x.bind(38, 0, 0), -1);
    }

    private static void bindPitchBounds() {
        check.sentence("9: OUTSIDE (PITCH i of an EVENT)");
        FretHands x = Check.withStrings(40);
        for (int size = 1; size <= 4; size++) {
            int event = x.event(50);
            for (int i = 1; i < size; i++) {
                x.pitch(50 + i);
            }
            int[] outside = {-1, size, 4, MIN, MAX};
            for (int i : outside) {
                check.due("bind(" + event + ", " + i + ", 0) of " + size, x.bind(event, i, 0), -2);
                check.due("bind(" + event + ", " + i + ", NONE) of " + size, x.bind(event, i, -1), -2);
            }
            check.due("the first of " + size, x.bind(event, 0, 0), -1);
            check.due("the last of " + size, x.bind(event, size - 1, 0), size == 1 ? 0 : -1);
        }
    }

    private static void bindStringBounds() {
        check.sentence("9: OUTSIDE (a STRING that there is not); NONE: to none");
        for (int strings = 0; strings <= 7; strings++) {
            FretHands x = new FretHands();
            for (int s = 0; s < strings; s++) {
                x.string(40);
            }
            x.event(45);
            int[] outside = {-2, strings, 7, MIN, MAX};
            for (int s : outside) {
                check.due("bind(0, 0, " + s + ") of " + strings, x.bind(0, 0, s), -2);
                check.due("bound(0, 0) behind it", x.bound(0, 0), -1);
            }
            check.due("bind(0, 0, NONE) of " + strings, x.bind(0, 0, -1), -1);
            if (strings > 0) {
                check.due("the first of " + strings, x.bind(0, 0, 0), -1);
                check.due("the last of " + strings, x.bind(0, 0, strings - 1), 0);
                check.due("none of " + strings, x.bind(0, 0, -1), strings - 1);
                check.due("bound(0, 0)", x.bound(0, 0), -1);
            }
        }
    }

    private static void bindOrderOfRefusals() {
        check.sentence("9: UNKNOWN (ahead of OUTSIDE here)");
        FretHands x = Check.withStrings(40);
        x.event(45);
        check.due("no EVENT, no PITCH", x.bind(1, 4, 0), -3);
        check.due("no EVENT, no STRING", x.bind(1, 0, 1), -3);
        check.due("no EVENT, no PITCH, no STRING", x.bind(-1, -1, -2), -3);
        check.due("no PITCH, no STRING", x.bind(0, 1, 1), -2);
    }

    private static void bindAnswersWhatWas() {
        check.sentence("9: to which it was");
        FretHands x = Check.withStrings(40, 41, 42, 43, 44, 45, 46);
        Check.chord(x, 50, 51, 52, 53);
        Check.chord(x, 50, 51, 52, 53);
        for (int i = 0; i < 4; i++) {
            check.due("bind(0, " + i + ", 6)", x.bind(0, i, 6), -1);
        }
        for (int i = 0; i < 4; i++) {
            check.due("bind(0, " + i + ", " + i + ")", x.bind(0, i, i), 6);
            check.due("bind(0, " + i + ", " + i + ") again", x.bind(0, i, i), i);
            check.due("the other EVENT's", x.bound(1, i), -1);
        }
        for (int i = 0; i < 4; i++) {
            check.due("bound(0, " + i + ")", x.bound(0, i), i);
            check.due("at(0, " + i + ")", x.at(0, i), 50 + i);
        }
    }

    private static void dropDownToNone() {
        check.sentence("10: how many there are. STATE: there was none");
        FretHands x = new FretHands();
        check.due("of none", x.drop(), -4);
        Check.events(x, 40, 50);
        for (int left = 39; left >= 0; left--) {
            check.due("drop() to " + left, x.drop(), left);
        }
        check.due("of none again", x.drop(), -4);
        check.due("told(3)", x.told(3), 0);
        check.due("event(50)", x.event(50), 0);
    }

    private static void dropForgetsTheEvent() {
        check.sentence("10: The last EVENT is gone");
        FretHands x = Check.withStrings(40);
        Check.chord(x, 50, 51);
        Check.chord(x, 60, 61, 62, 63);
        for (int i = 0; i < 4; i++) {
            x.bind(1, i, 0);
        }
        check.due("drop()", x.drop(), 1);
        check.due("at(1, 0)", x.at(1, 0), -3);
        check.due("at(0, 0)", x.at(0, 0), 50);
        check.due("at(0, 1)", x.at(0, 1), 51);
        Check.chord(x, 70, 71);
        check.due("a new one's PITCH", x.at(1, 0), 70);
        check.due("its bond", x.bound(1, 0), -1);
        check.due("its second bond", x.bound(1, 1), -1);
        check.due("no third PITCH", x.at(1, 2), -1);
        check.due("no third bond", x.bound(1, 2), -1);
    }

    private static void atBounds() {
        check.sentence("12: PITCH i; NONE: it has none such. UNKNOWN");
        FretHands x = new FretHands();
        check.due("at(0, 0) without events", x.at(0, 0), -3);
        for (int size = 1; size <= 4; size++) {
            int event = x.event(50);
            for (int i = 1; i < size; i++) {
                x.pitch(50 + i);
            }
            int[] none = {-1, size, 4, 5, MIN, MAX};
            for (int i : none) {
                check.due("at(" + event + ", " + i + ") of " + size, x.at(event, i), -1);
            }
            for (int i = 0; i < size; i++) {
                check.due("at(" + event + ", " + i + ") of " + size, x.at(event, i), 50 + i);
            }
        }
        int[] unknown = {-1, 4, 40, MIN, MAX};
        for (int event : unknown) {
            check.due("at(" + event + ", 0)", x.at(event, 0), -3);
            check.due("at(" + event + ", 4): UNKNOWN, not NONE", x.at(event, 4), -3);
        }
    }

    private static void boundBounds() {
        check.sentence("13: To which STRING; NONE (also where there is none such). UNKNOWN");
        FretHands x = Check.withStrings(40, 41, 42, 43, 44, 45, 46);
        check.due("bound(0, 0) without events", x.bound(0, 0), -3);
        for (int size = 1; size <= 4; size++) {
            int event = x.event(50);
            for (int i = 1; i < size; i++) {
                x.pitch(50 + i);
            }
            x.bind(event, size - 1, size == 4 ? 6 : 0);
            int[] none = {-1, size, 4, 5, MIN, MAX};
            for (int i : none) {
                check.due("bound(" + event + ", " + i + ") of " + size, x.bound(event, i), -1);
            }
            for (int i = 0; i < size - 1; i++) {
                check.due("bound(" + event + ", " + i + ") of " + size, x.bound(event, i), -1);
            }
            check.due("the last of " + size, x.bound(event, size - 1), size == 4 ? 6 : 0);
        }
        int[] unknown = {-1, 4, 40, MIN, MAX};
        for (int event : unknown) {
            check.due("bound(" + event + ", 0)", x.bound(event, 0), -3);
            check.due("bound(" + event + ", 4): UNKNOWN, not NONE", x.bound(event, 4), -3);
        }
    }
}
