// A walk through the class; README.md shows this file and what it prints.
public final class Dance {
    public static void main(String[] args) {
        SewnUp x = new SewnUp();
        System.out.println("they come as " + x.groom(0, 1, 8) + ", " + x.groom(1, 0, 3) + ", " + x.groom(2, 3, 9));
        System.out.println("0 and 1 change coats: 0 wears the coat of " + x.change(0, 1));
        System.out.println("rings " + x.rings(0) + ", changes till all is right " + x.rings(2));
        System.out.println("opened, were the pocket of 2: bits " + x.from(2));

        x.image();
        System.out.println("a day: " + x.day() + " boil over; warm " + x.count(1));
        System.out.println("ten days in thought: warm " + x.run(10, 0));
        System.out.println("the best coats: " + x.best(10, 0) + ", warm then " + x.best(10, 1));

        x.film(0);
        System.out.println("ways to wear the coats that feel like this: " + x.tells(0, 1));

        String text = "heats 5 + day ; calms thing ; feels thing * (1 + number) ;";
        for (int i = 0; i < text.length(); i++) {
            x.feed(text.charAt(i));
        }
        int rule = x.text();
        System.out.println("a text is read: " + rule + "; the rule was " + x.force(rule));
        System.out.println("by it 2 is hotter by " + x.told(2, 8));

        System.out.println("all is as it was, with " + x.back() + " grooms; warm " + x.count(1));
        System.out.println("refused: " + x.groom(6, 0, 0) + " (BAD is " + SewnUp.BAD + ")");
    }
}
