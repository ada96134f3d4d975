/** Calls a method of the service by its name. */
final class Calls {
    private Calls() {
    }

    static int answer(CoordinationService service, String name, int... a) {
        return switch (name) {
            case "reset" -> service.reset(a[0]);
            case "crash" -> service.crash(a[0]);
            case "restart" -> service.restart(a[0]);
            case "elect" -> service.elect();
            case "synchronize" -> service.synchronize(a[0]);
            case "accept" -> service.accept(a[0]);
            case "heartbeat" -> service.heartbeat(a[0]);
            case "leader" -> service.leader();
            case "lastIdentifier" -> service.lastIdentifier(a[0]);
            case "appliedCount" -> service.appliedCount(a[0]);
            case "committedCount" -> service.committedCount();
            case "acceptedEpoch" -> service.acceptedEpoch(a[0]);
            case "appendName" -> service.appendName(a[0]);
            case "clearPath" -> service.clearPath();
            case "create" -> service.create(a[0], a[1]);
            case "setData" -> service.setData(a[0], a[1]);
            case "delete" -> service.delete(a[0]);
            case "openSession" -> service.openSession();
            case "closeSession" -> service.closeSession(a[0]);
            case "watch" -> service.watch(a[0], a[1]);
            case "eventCount" -> service.eventCount(a[0]);
            case "eventAt" -> service.eventAt(a[0], a[1]);
            case "dataAt" -> service.dataAt(a[0]);
            case "versionAt" -> service.versionAt(a[0]);
            case "ownerAt" -> service.ownerAt(a[0]);
            case "childCount" -> service.childCount(a[0]);
            case "nodeCount" -> service.nodeCount(a[0]);
            case "commonLog" -> service.commonLog(a[0], a[1]);
            default -> throw new IllegalArgumentException(name);
        };
    }
}
