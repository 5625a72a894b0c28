import java.util.ArrayList;
import java.util.List;

/** Runs of calls that bring an object to where a boundary of the document is. */
final class Scenes {
    record Scene(String name, List<Call> calls) {
    }

    static final String ASKING = "want 0 0;";
    /** The four NUMBERs are on their way. */
    static final String WRITING = "want 0 0; 8 x deliver 0;";
    /** Client 0 holds permit 1 of crane 0, and no letter is on its way. */
    static final String HOLDING = "want 0 0; 16 x deliver 0;";
    /** The sixteen BROKENs are on their way. */
    static final String BROKEN = HOLDING + "breakPermit 0 1;";
    /** All but the left half's leaves speak, and the root does not: there is no route. */
    static final String NO_ROUTE = "want 0 0; timeout 0 0 0; timeout 0 0 7; timeout 0 0 8;"
            + "timeout 0 0 9; timeout 0 0 10;";
    /** 239 letters, copies of client 0's ASK to the root of crane 0 but for three. */
    static final String ONE_PLACE = "want 0 0; 235 x copy 0;";
    static final String FULL = "want 0 0; 236 x copy 0;";

    private Scenes() {
    }

    /**
     * So many clients' runs come to the root of crane 0 (the first holds its vote, the others
     * wait), are given up, and their BACKs are lost; no letter is on its way.
     */
    static String claims(int count) {
        StringBuilder text = new StringBuilder();
        for (int i = 0; i < count; i++) {
            int client = i % 8;
            text.append("want ").append(client).append(" 0; deliver 0; ");
            text.append(i == 0 ? "4" : "3").append(" x drop 0; ");
            text.append("giveUp ").append(client).append(" 0; 4 x drop 0;");
        }
        return text.toString();
    }

    /** As with claims, so many runs of clients 1 to 7 wait for the vote that another holds. */
    static String waits(int count) {
        StringBuilder text = new StringBuilder();
        for (int i = 0; i < count; i++) {
            int client = 1 + i % 7;
            text.append("want ").append(client).append(" 0; deliver 0; 3 x drop 0; ");
            text.append("giveUp ").append(client).append(" 0; 4 x drop 0;");
        }
        return text.toString();
    }

    static List<Scene> all() {
        List<Scene> all = new ArrayList<>();
        add(all, "new", "");
        add(all, "asking", ASKING);
        add(all, "asking, with a vote", "want 0 0; deliver 0; deliver 3");
        add(all, "asking, all votes on their way", "want 0 0; 4 x deliver 0");
        add(all, "asking, with silent ones", "want 0 0; timeout 0 0 7; timeout 0 0 1");
        add(all, "asking without a route", NO_ROUTE);
        add(all, "writing", WRITING);
        add(all, "writing, one has stored", WRITING, "deliver 0; deliver 3");
        add(all, "holding", HOLDING);
        add(all, "holding, with an order on its way", HOLDING, "order 0 0 9");
        add(all, "holding what is broken", BROKEN);
        add(all, "holding what all know as broken", BROKEN, "16 x deliver 0");
        add(all, "released", HOLDING, "release 0 0; 4 x deliver 0");
        add(all, "ended, with late votes", "want 0 0; 4 x deliver 0; giveUp 0 0");
        add(all, "ended, with late STOREDs", WRITING, "4 x deliver 0; giveUp 0 0");
        add(all, "the second run, with late votes",
                "want 0 0; 4 x deliver 0; giveUp 0 0; want 0 0");
        add(all, "two wait", HOLDING, "want 1 0; want 2 0; 8 x deliver 0");
        add(all, "a broken permit and a good one", HOLDING, "want 1 0; 4 x deliver 0;",
                "breakPermit 0 1; 40 x deliver 0");
        add(all, "some are down", "stop 0; stop 14; want 0 0");
        add(all, "one at two cranes", "want 7 2; want 7 3; 20 x deliver 0");
        add(all, "the last client at the last crane",
                "want 7 3; 16 x deliver 0; order 7 3 5; deliver 0");
        add(all, "a place less than full", ONE_PLACE);
        add(all, "full", FULL);
        add(all, "full, one holds", "want 1 1; 16 x deliver 0;", FULL);
        add(all, "full of orders", HOLDING, "order 0 0 3; 239 x copy 0");
        add(all, "15 wait", claims(16));
        add(all, "16 wait", claims(17));
        add(all, "16 wait, another asks", claims(17), "want 1 0");
        add(all, "64 orders", HOLDING, "order 0 0 4; 63 x copy 0; 64 x deliver 0");
        add(all, "65 orders", HOLDING, "order 0 0 4; 64 x copy 0; 65 x deliver 0");
        return all;
    }

    private static void add(List<Scene> all, String name, String... parts) {
        all.add(new Scene(name, Script.calls(parts)));
    }
}
