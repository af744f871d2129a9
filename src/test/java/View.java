/** All that can be seen of a wheel, as one text. A wheel is looked at once: a look is some 350 of its 512 calls. */
final class View {
    private View() {
    }

    static String of(TopWheel x) {
        StringBuilder seen = new StringBuilder();
        for (int what = 0; what <= 14; what++) {
            seen.append("count ").append(what).append(' ').append(x.count(what)).append('\n');
        }
        int riders = x.count(0);
        for (int r = 0; r < riders; r++) {
            for (int what = 0; what < 8; what++) {
                seen.append("rider ").append(r).append(' ').append(what).append(' ').append(x.rider(r, what)).append('\n');
            }
        }
        for (int c = 0; c < 8; c++) {
            seen.append("cradle ").append(c).append(' ').append(x.cradle(c, 0)).append(' ').append(x.cradle(c, 1)).append('\n');
        }
        for (int p = 0; p < 4; p++) {
            seen.append("party ").append(p).append(' ').append(x.party(p, 0)).append('\n');
        }
        int rows = x.count(13);
        for (int ago = 0; ago < rows; ago++) {
            for (int what = 0; what < 4; what++) {
                seen.append("log ").append(ago).append(' ').append(what).append(' ').append(x.log(ago, what)).append('\n');
            }
        }
        seen.append("farther ").append(x.farther()).append('\n');
        seen.append("fault ").append(x.fault()).append('\n');
        int seed = x.seed(1);
        x.seed(seed);
        seen.append("seed ").append(seed).append('\n');
        seen.append("tape ").append(x.feed(0, 0, 0, 0, 0)).append('\n');
        return seen.toString();
    }
}
