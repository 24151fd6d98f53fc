def wo_nF (ty : FieldType) : Bool := match ty with
  | .float => false
  | .double => false
  | _ => true
def vw_S2 : List Cond := [Cond.selects "java/lang/StringBuilder" ⟨"java/lang/AbstractStringBuilder", "ensureCapacityInternal", "(I)V"⟩ ⟨"java/lang/AbstractStringBuilder", "ensureCapacityInternal", "(I)V"⟩, Cond.selects "java/lang/StringBuilder" ⟨"java/lang/AbstractStringBuilder", "newCapacity", "(I)I"⟩ ⟨"java/lang/AbstractStringBuilder", "newCapacity", "(I)I"⟩, Cond.selects "java/lang/StringBuilder" ⟨"java/lang/AbstractStringBuilder", "inflate", "()V"⟩ ⟨"java/lang/AbstractStringBuilder", "inflate", "()V"⟩, Cond.selects "java/lang/StringBuilder" ⟨"java/lang/AbstractStringBuilder", "appendNull", "()Ljava/lang/AbstractStringBuilder;"⟩ ⟨"java/lang/AbstractStringBuilder", "appendNull", "()Ljava/lang/AbstractStringBuilder;"⟩, Cond.selects "java/lang/StringBuilder" ⟨"java/lang/AbstractStringBuilder", "putStringAt", "(ILjava/lang/String;)V"⟩ ⟨"java/lang/AbstractStringBuilder", "putStringAt", "(ILjava/lang/String;)V"⟩, Cond.selects "java/lang/StringBuilder" ⟨"java/lang/AbstractStringBuilder", "inflateIfNeededFor", "(Ljava/lang/String;)V"⟩ ⟨"java/lang/AbstractStringBuilder", "inflateIfNeededFor", "(Ljava/lang/String;)V"⟩]
def vw_WG : List Cond := vw_S2 ++ lw_tbl.filter goodWord
theorem wg_s {w : Cond} (i : Nat) (h : vw_S2[i]? = some w) : w ∈ vw_WG := List.mem_append_left _ (List.mem_of_getElem? h)
def vw_at (n : Nat) : Option Cond := ([tables_1_1, tables_1_2, tables_1_3, tables_1_4, tables_1_5, tables_1_6, tables_1_7, tables_1_8][n / 240]?).bind (fun l => l[n % 240]?)
theorem vw_at_in {n : Nat} {w : Cond} (h : vw_at n = some w) : w ∈ tables_1 := by
  obtain ⟨l, hl, h⟩ := Option.bind_eq_some_iff.mp h
  have h1 := List.mem_of_getElem? hl
  have h2 := List.mem_of_getElem? h
  simp only [List.mem_cons, List.not_mem_nil, or_false] at h1
  unfold tables_1
  simp only [List.mem_append]
  rcases h1 with rfl | rfl | rfl | rfl | rfl | rfl | rfl | rfl <;> simp [h2]
theorem wg_t {w : Cond} (i : Nat) (h : vw_at i = some w) (g : goodWord w = true) : w ∈ vw_WG := List.mem_append_right _ (List.mem_filter.mpr ⟨List.mem_append_right _ (vw_at_in h), g⟩)
theorem wg_p {w : Cond} (i : Nat) (h : (k2_sels lw_privs)[i]? = some w) (g : goodWord w = true) : w ∈ vw_WG := List.mem_append_right _ (List.mem_filter.mpr ⟨List.mem_append_left _ (List.mem_of_getElem? h), g⟩)
theorem vt_good : ∀ w ∈ vw_WG, (w.onTables && w.keeps) = true ∨ ∃ ty, w = .arrayClass ty := by
  intro w h
  rcases List.mem_append.mp h with h | h
  · have hg : (vw_S2.all goodWord) = true := rfl
    exact good_of_word (List.all_eq_true.mp hg w h)
  · exact good_of_word (List.mem_filter.mp h).2
theorem wg_l {ws : List Cond} (is : List Nat) (h : is.map vw_at = ws.map some) (g : ws.all goodWord = true) : ∀ w ∈ ws, w ∈ vw_WG := by
  intro w hw
  have h1 : some w ∈ is.map vw_at := by rw [h]; exact List.mem_map.mpr ⟨w, hw, rfl⟩
  obtain ⟨i, -, hi⟩ := List.mem_map.mp h1
  exact wg_t i hi (List.all_eq_true.mp g w hw)
def vw_F0 : List (String × String × String × Bool) := [("EdgeCache", "connections", "[LEdgeCache$Connection;", true), ("EdgeCache", "server", "LEdgeCache$Origin;", true), ("EdgeCache", "store", "LEdgeCache$Store;", true), ("EdgeCache", "sheet", "LEdgeCache$Sheet;", true), ("EdgeCache", "sentJobs", "[LEdgeCache$Job;", true), ("EdgeCache", "waitingJobs", "Ljava/util/ArrayList;", true), ("EdgeCache", "now", "I", false)]
def vw_Y0 : List FieldType := [(.array (.object "EdgeCache$Connection")), (.object "EdgeCache$Origin"), (.object "EdgeCache$Store"), (.object "EdgeCache$Sheet"), (.array (.object "EdgeCache$Job")), (.object "java/util/ArrayList"), .int]
def vw_F1 : List (String × String × String × Bool) := [("EdgeCache$Origin", "resources", "Ljava/util/ArrayList;", true), ("EdgeCache$Origin", "latestTag", "I", false)]
def vw_Y1 : List FieldType := [(.object "java/util/ArrayList"), .int]
def vw_F2 : List (String × String × String × Bool) := [("java/util/ArrayList", "elementData", "[Ljava/lang/Object;", false), ("java/util/ArrayList", "size", "I", false), ("java/util/AbstractList", "modCount", "I", false)]
def vw_Y2 : List FieldType := [(.array (.object "java/lang/Object")), .int, .int]
def vw_F3 : List (String × String × String × Bool) := [("EdgeCache$Sheet", "text", "Ljava/lang/StringBuilder;", true), ("EdgeCache$Sheet", "firsts", "[I", true), ("EdgeCache$Sheet", "lasts", "[I", true), ("EdgeCache$Sheet", "pieces", "I", false)]
def vw_Y3 : List FieldType := [(.object "java/lang/StringBuilder"), (.array .int), (.array .int), .int]
def vw_F4 : List (String × String × String × Bool) := [("java/lang/AbstractStringBuilder", "value", "[B", false), ("java/lang/AbstractStringBuilder", "coder", "B", false), ("java/lang/AbstractStringBuilder", "maybeLatin1", "Z", false), ("java/lang/AbstractStringBuilder", "count", "I", false)]
def vw_Y4 : List FieldType := [(.array .byte), .byte, .boolean, .int]
def vw_F5 : List (String × String × String × Bool) := [("EdgeCache$Store", "byUse", "Ljava/util/ArrayList;", true), ("EdgeCache$Store", "capacity", "I", true), ("EdgeCache$Store", "total", "I", false)]
def vw_Y5 : List FieldType := [(.object "java/util/ArrayList"), .int, .int]
def vw_F6 : List (String × String × String × Bool) := [("EdgeCache$Connection", "reader", "LEdgeCache$Reader;", true), ("EdgeCache$Connection", "requests", "[LEdgeCache$Request;", true), ("EdgeCache$Connection", "output", "[C", true), ("EdgeCache$Connection", "handled", "I", false), ("EdgeCache$Connection", "answered", "I", false), ("EdgeCache$Connection", "outputLength", "I", false), ("EdgeCache$Connection", "shut", "Z", false)]
def vw_Y6 : List FieldType := [(.object "EdgeCache$Reader"), (.array (.object "EdgeCache$Request")), (.array .char), .int, .int, .int, .boolean]
def vw_F7 : List (String × String × String × Bool) := [("EdgeCache$Reader", "line", "Ljava/lang/StringBuilder;", true), ("EdgeCache$Reader", "body", "Ljava/lang/StringBuilder;", true), ("EdgeCache$Reader", "scratch", "Ljava/lang/StringBuilder;", true), ("EdgeCache$Reader", "request", "LEdgeCache$Request;", false), ("EdgeCache$Reader", "part", "I", false), ("EdgeCache$Reader", "headers", "I", false), ("EdgeCache$Reader", "length", "I", false), ("EdgeCache$Reader", "chunked", "Z", false), ("EdgeCache$Reader", "left", "I", false)]
def vw_Y7 : List FieldType := [(.object "java/lang/StringBuilder"), (.object "java/lang/StringBuilder"), (.object "java/lang/StringBuilder"), (.object "EdgeCache$Request"), .int, .int, .int, .boolean, .int]
def vw_F8 : List (String × String × String × Bool) := [("EdgeCache$Request", "method", "I", false), ("EdgeCache$Request", "path", "Ljava/lang/String;", false), ("EdgeCache$Request", "body", "Ljava/lang/String;", false), ("EdgeCache$Request", "match", "Ljava/lang/String;", false), ("EdgeCache$Request", "noneMatch", "Ljava/lang/String;", false), ("EdgeCache$Request", "range", "Ljava/lang/String;", false), ("EdgeCache$Request", "ifRange", "Ljava/lang/String;", false), ("EdgeCache$Request", "control", "Ljava/lang/String;", false), ("EdgeCache$Request", "variant", "Ljava/lang/String;", false), ("EdgeCache$Request", "letter", "Ljava/lang/String;", false), ("EdgeCache$Request", "policy", "Ljava/lang/String;", false), ("EdgeCache$Request", "answer", "Ljava/lang/String;", false)]
def vw_Y8 : List FieldType := [.int, (.object "java/lang/String"), (.object "java/lang/String"), (.object "java/lang/String"), (.object "java/lang/String"), (.object "java/lang/String"), (.object "java/lang/String"), (.object "java/lang/String"), (.object "java/lang/String"), (.object "java/lang/String"), (.object "java/lang/String"), (.object "java/lang/String")]
def vw_F9 : List (String × String × String × Bool) := [("java/lang/String", "value", "[B", true), ("java/lang/String", "coder", "B", true), ("java/lang/String", "hash", "I", false), ("java/lang/String", "hashIsZero", "Z", false)]
def vw_Y9 : List FieldType := [(.array .byte), .byte, .int, .boolean]
def vw_F10 : List (String × String × String × Bool) := [("EdgeCache$Job", "request", "LEdgeCache$Request;", true), ("EdgeCache$Job", "copyTag", "I", true), ("EdgeCache$Job", "sentAt", "I", false), ("EdgeCache$Job", "status", "I", false), ("EdgeCache$Job", "response", "LEdgeCache$Representation;", false), ("EdgeCache$Job", "givenTag", "I", false), ("EdgeCache$Job", "spoiled", "Z", false)]
def vw_Y10 : List FieldType := [(.object "EdgeCache$Request"), .int, .int, .int, (.object "EdgeCache$Representation"), .int, .boolean]
def vw_F11 : List (String × String × String × Bool) := [("EdgeCache$Resource", "path", "Ljava/lang/String;", true), ("EdgeCache$Resource", "byLetter", "[LEdgeCache$Representation;", true)]
def vw_Y11 : List FieldType := [(.object "java/lang/String"), (.array (.object "EdgeCache$Representation"))]
def vw_F12 : List (String × String × String × Bool) := [("EdgeCache$Representation", "letter", "C", true), ("EdgeCache$Representation", "body", "Ljava/lang/String;", true), ("EdgeCache$Representation", "tag", "I", true), ("EdgeCache$Representation", "policy", "Ljava/lang/String;", true), ("EdgeCache$Representation", "varies", "Z", true)]
def vw_Y12 : List FieldType := [.char, (.object "java/lang/String"), .int, (.object "java/lang/String"), .boolean]
def vw_F13 : List (String × String × String × Bool) := [("EdgeCache$Stored", "representation", "LEdgeCache$Representation;", true), ("EdgeCache$Stored", "path", "Ljava/lang/String;", true), ("EdgeCache$Stored", "variant", "Ljava/lang/String;", true), ("EdgeCache$Stored", "time", "I", true), ("EdgeCache$Stored", "size", "I", true)]
def vw_Y13 : List FieldType := [(.object "EdgeCache$Representation"), (.object "java/lang/String"), (.object "java/lang/String"), .int, .int]
def vw_F14 : List (String × String × String × Bool) := [("EdgeCacheModel", "raw", "[I", false), ("EdgeCacheModel", "rawLength", "[I", false), ("EdgeCacheModel", "shut", "[Z", false), ("EdgeCacheModel", "output", "[I", false), ("EdgeCacheModel", "outLength", "[I", false), ("EdgeCacheModel", "place", "[I", false), ("EdgeCacheModel", "placeLength", "[I", false), ("EdgeCacheModel", "first", "[I", false), ("EdgeCacheModel", "places", "[I", false), ("EdgeCacheModel", "text", "[I", false), ("EdgeCacheModel", "length", "I", false), ("EdgeCacheModel", "method", "[I", false), ("EdgeCacheModel", "path", "[J", false), ("EdgeCacheModel", "pathLength", "[I", false), ("EdgeCacheModel", "value", "[J", false), ("EdgeCacheModel", "valueLength", "[I", false), ("EdgeCacheModel", "body", "[J", false), ("EdgeCacheModel", "bodyLength", "[I", false), ("EdgeCacheModel", "announced", "I", false), ("EdgeCacheModel", "chunked", "Z", false), ("EdgeCacheModel", "work", "[I", false), ("EdgeCacheModel", "kept", "[I", false), ("EdgeCacheModel", "state", "[I", false), ("EdgeCacheModel", "connection", "[I", false), ("EdgeCacheModel", "ticket", "[I", false), ("EdgeCacheModel", "order", "[I", false), ("EdgeCacheModel", "line", "[I", false), ("EdgeCacheModel", "sentAt", "[I", false), ("EdgeCacheModel", "copied", "[Z", false), ("EdgeCacheModel", "spoiled", "[Z", false), ("EdgeCacheModel", "status", "[I", false), ("EdgeCacheModel", "given", "[I", false), ("EdgeCacheModel", "orders", "I", false), ("EdgeCacheModel", "letter", "[I", false), ("EdgeCacheModel", "content", "[J", false), ("EdgeCacheModel", "contentLength", "[I", false), ("EdgeCacheModel", "tagOf", "[I", false), ("EdgeCacheModel", "policy", "[J", false), ("EdgeCacheModel", "policyLength", "[I", false), ("EdgeCacheModel", "varies", "[Z", false), ("EdgeCacheModel", "isStored", "[Z", false), ("EdgeCacheModel", "storedPath", "[J", false), ("EdgeCacheModel", "storedPathLength", "[I", false), ("EdgeCacheModel", "storedV", "[J", false), ("EdgeCacheModel", "storedVLength", "[I", false), ("EdgeCacheModel", "storedAt", "[I", false), ("EdgeCacheModel", "storedSize", "[I", false), ("EdgeCacheModel", "used", "[I", false), ("EdgeCacheModel", "uses", "I", false), ("EdgeCacheModel", "isResource", "[Z", false), ("EdgeCacheModel", "resourcePath", "[J", false), ("EdgeCacheModel", "resourcePathLength", "[I", false), ("EdgeCacheModel", "resourcePolicy", "[J", false), ("EdgeCacheModel", "resourcePolicyLength", "[I", false), ("EdgeCacheModel", "resourceBody", "[J", false), ("EdgeCacheModel", "resourceBodyLength", "[I", false), ("EdgeCacheModel", "resourceTag", "[I", false), ("EdgeCacheModel", "from", "[I", false), ("EdgeCacheModel", "to", "[I", false), ("EdgeCacheModel", "capacity", "I", false), ("EdgeCacheModel", "now", "I", false), ("EdgeCacheModel", "tags", "I", false)]
def vw_Y14 : List FieldType := [(.array .int), (.array .int), (.array .boolean), (.array .int), (.array .int), (.array .int), (.array .int), (.array .int), (.array .int), (.array .int), .int, (.array .int), (.array .long), (.array .int), (.array .long), (.array .int), (.array .long), (.array .int), .int, .boolean, (.array .int), (.array .int), (.array .int), (.array .int), (.array .int), (.array .int), (.array .int), (.array .int), (.array .boolean), (.array .boolean), (.array .int), (.array .int), .int, (.array .int), (.array .long), (.array .int), (.array .int), (.array .long), (.array .int), (.array .boolean), (.array .boolean), (.array .long), (.array .int), (.array .long), (.array .int), (.array .int), (.array .int), (.array .int), .int, (.array .boolean), (.array .long), (.array .int), (.array .long), (.array .int), (.array .long), (.array .int), (.array .int), (.array .int), (.array .int), .int, .int, .int]
def vw_Cl : List vw_C := [("EdgeCache", (fun k => vw_F0.getD k ("", "", "", false)), 7), ("EdgeCache$Origin", (fun k => vw_F1.getD k ("", "", "", false)), 2), ("java/util/ArrayList", (fun k => vw_F2.getD k ("", "", "", false)), 3), ("EdgeCache$Sheet", (fun k => vw_F3.getD k ("", "", "", false)), 4), ("java/lang/StringBuilder", (fun k => vw_F4.getD k ("", "", "", false)), 4), ("EdgeCache$Store", (fun k => vw_F5.getD k ("", "", "", false)), 3), ("EdgeCache$Connection", (fun k => vw_F6.getD k ("", "", "", false)), 7), ("EdgeCache$Reader", (fun k => vw_F7.getD k ("", "", "", false)), 9), ("EdgeCache$Request", (fun k => vw_F8.getD k ("", "", "", false)), 12), ("java/lang/String", (fun k => vw_F9.getD k ("", "", "", false)), 4), ("EdgeCache$Job", (fun k => vw_F10.getD k ("", "", "", false)), 7), ("EdgeCache$Resource", (fun k => vw_F11.getD k ("", "", "", false)), 2), ("EdgeCache$Representation", (fun k => vw_F12.getD k ("", "", "", false)), 5), ("EdgeCache$Stored", (fun k => vw_F13.getD k ("", "", "", false)), 5), ("EdgeCacheModel", (fun k => vw_F14.getD k ("", "", "", false)), 62)]
def vw_Tl : List (List FieldType) := [vw_Y0, vw_Y1, vw_Y2, vw_Y3, vw_Y4, vw_Y5, vw_Y6, vw_Y7, vw_Y8, vw_Y9, vw_Y10, vw_Y11, vw_Y12, vw_Y13, vw_Y14]
def vw_Ty (c k : Nat) : FieldType := (vw_Tl.getD c []).getD k .int
def vw_Kf (c k : Nat) : Bool := !(c == 9 && (k == 2 || k == 3))
def vw_Ar : List FieldType := [.object "EdgeCache$Connection", .byte, .int, .object "EdgeCache$Job", .object "EdgeCache$Request", .char, .object "EdgeCache$Representation", .object "java/lang/Object", .boolean, .long]
theorem vt_ln : vw_Cl.length ≤ 63 := by decide
theorem vt_w0 : ∀ w ∈ u_ws "EdgeCache" (fun k => vw_F0.getD k ("", "", "", false)) 7, w ∈ vw_WG := wg_l [304, 306, 308, 310, 312, 314, 316] rfl rfl
theorem vt_w1 : ∀ w ∈ u_ws "EdgeCache$Origin" (fun k => vw_F1.getD k ("", "", "", false)) 2, w ∈ vw_WG := wg_l [75, 77] rfl rfl
theorem vt_w2 : ∀ w ∈ u_ws "java/util/ArrayList" (fun k => vw_F2.getD k ("", "", "", false)) 3, w ∈ vw_WG := wg_l [65, 67, 69] rfl rfl
theorem vt_w3 : ∀ w ∈ u_ws "EdgeCache$Sheet" (fun k => vw_F3.getD k ("", "", "", false)) 4, w ∈ vw_WG := wg_l [123, 125, 127, 129] rfl rfl
theorem vt_w4 : ∀ w ∈ u_ws "java/lang/StringBuilder" (fun k => vw_F4.getD k ("", "", "", false)) 4, w ∈ vw_WG := wg_l [109, 111, 113, 115] rfl rfl
theorem vt_w5 : ∀ w ∈ u_ws "EdgeCache$Store" (fun k => vw_F5.getD k ("", "", "", false)) 3, w ∈ vw_WG := wg_l [155, 157, 159] rfl rfl
theorem vt_w6 : ∀ w ∈ u_ws "EdgeCache$Connection" (fun k => vw_F6.getD k ("", "", "", false)) 7, w ∈ vw_WG := wg_l [281, 283, 285, 287, 289, 291, 293] rfl rfl
theorem vt_w7 : ∀ w ∈ u_ws "EdgeCache$Reader" (fun k => vw_F7.getD k ("", "", "", false)) 9, w ∈ vw_WG := wg_l [250, 252, 254, 256, 258, 260, 262, 264, 266] rfl rfl
theorem vt_w8 : ∀ w ∈ u_ws "EdgeCache$Request" (fun k => vw_F8.getD k ("", "", "", false)) 12, w ∈ vw_WG := wg_l [216, 218, 220, 222, 224, 226, 228, 230, 232, 234, 236, 238] rfl rfl
theorem vt_w9 : ∀ w ∈ u_ws "java/lang/String" (fun k => vw_F9.getD k ("", "", "", false)) 4, w ∈ vw_WG := wg_l [485, 487, 489, 491] rfl rfl
theorem vt_w10 : ∀ w ∈ u_ws "EdgeCache$Job" (fun k => vw_F10.getD k ("", "", "", false)) 7, w ∈ vw_WG := wg_l [825, 827, 829, 831, 833, 835, 837] rfl rfl
theorem vt_w11 : ∀ w ∈ u_ws "EdgeCache$Resource" (fun k => vw_F11.getD k ("", "", "", false)) 2, w ∈ vw_WG := wg_l [897, 899] rfl rfl
theorem vt_w12 : ∀ w ∈ u_ws "EdgeCache$Representation" (fun k => vw_F12.getD k ("", "", "", false)) 5, w ∈ vw_WG := wg_l [980, 982, 984, 986, 988] rfl rfl
theorem vt_w13 : ∀ w ∈ u_ws "EdgeCache$Stored" (fun k => vw_F13.getD k ("", "", "", false)) 5, w ∈ vw_WG := wg_l [1243, 1245, 1247, 1249, 1251] rfl rfl
theorem vt_w14 : ∀ w ∈ u_ws "EdgeCacheModel" (fun k => vw_F14.getD k ("", "", "", false)) 62, w ∈ vw_WG := wg_l [1366, 1368, 1370, 1372, 1374, 1376, 1378, 1380, 1382, 1384, 1386, 1388, 1390, 1392, 1394, 1396, 1398, 1400, 1402, 1404, 1406, 1408, 1410, 1412, 1414, 1416, 1418, 1420, 1422, 1424, 1426, 1428, 1430, 1432, 1434, 1436, 1438, 1440, 1442, 1444, 1446, 1448, 1450, 1452, 1454, 1456, 1458, 1460, 1462, 1464, 1466, 1468, 1470, 1472, 1474, 1476, 1478, 1480, 1482, 1484, 1486, 1488] rfl rfl
theorem vt_ws : ∀ (c : Nat) (r : vw_C), vw_Cl[c]? = some r → ∀ w ∈ u_ws r.1 r.2.1 r.2.2, w ∈ vw_WG
  | 0, r, h => by cases h; exact vt_w0
  | 1, r, h => by cases h; exact vt_w1
  | 2, r, h => by cases h; exact vt_w2
  | 3, r, h => by cases h; exact vt_w3
  | 4, r, h => by cases h; exact vt_w4
  | 5, r, h => by cases h; exact vt_w5
  | 6, r, h => by cases h; exact vt_w6
  | 7, r, h => by cases h; exact vt_w7
  | 8, r, h => by cases h; exact vt_w8
  | 9, r, h => by cases h; exact vt_w9
  | 10, r, h => by cases h; exact vt_w10
  | 11, r, h => by cases h; exact vt_w11
  | 12, r, h => by cases h; exact vt_w12
  | 13, r, h => by cases h; exact vt_w13
  | 14, r, h => by cases h; exact vt_w14
  | n + 15, r, h => by
    have := (List.getElem?_eq_some_iff.mp h).1
    have h2 : vw_Cl.length = 15 := rfl
    omega
theorem vt_ty0 : (vw_Cl.zipIdx.all fun q => (List.range q.1.2.2).all fun k => decide (parseFieldDescriptor (q.1.2.1 k).2.2.1 = some (vw_Ty q.2 k)) && wo_nF (vw_Ty q.2 k)) = true := by decide +kernel
theorem vt_ty1 {c : Nat} {r : vw_C} (hr : vw_Cl[c]? = some r) {k : Nat} (hk : k < r.2.2) : parseFieldDescriptor (r.2.1 k).2.2.1 = some (vw_Ty c k) ∧ wo_nF (vw_Ty c k) = true := by
  have h := List.all_eq_true.mp vt_ty0 (r, c) (List.mk_mem_zipIdx_iff_getElem?.mpr hr)
  have h2 := List.all_eq_true.mp h k (List.mem_range.mpr hk)
  simp only [Bool.and_eq_true, decide_eq_true_eq] at h2
  exact h2
theorem vt_ty (c : Nat) (r : vw_C) (hr : vw_Cl[c]? = some r) : ∀ k, k < r.2.2 → parseFieldDescriptor (r.2.1 k).2.2.1 = some (vw_Ty c k) := fun _ hk => (vt_ty1 hr hk).1
theorem vt_nf (c : Nat) (r : vw_C) (hr : vw_Cl[c]? = some r) (k : Nat) (hk : k < r.2.2) : wo_nF (vw_Ty c k) = true := (vt_ty1 hr hk).2
theorem vt_nm0 : (vw_Cl.all fun r => (List.range r.2.2).all fun a => (List.range r.2.2).all fun b => a == b || !((r.2.1 a).2.1 == (r.2.1 b).2.1)) = true := by decide +kernel
theorem vt_nm (c : Nat) (r : vw_C) (hr : vw_Cl[c]? = some r) : ∀ a, a < r.2.2 → ∀ b, b < r.2.2 → a ≠ b → (r.2.1 a).2.1 ≠ (r.2.1 b).2.1 := by
  intro a ha b hb hab
  have h := List.all_eq_true.mp (List.all_eq_true.mp (List.all_eq_true.mp vt_nm0 r (List.mem_of_getElem? hr)) a (List.mem_range.mpr ha)) b (List.mem_range.mpr hb)
  simp only [Bool.or_eq_true, beq_iff_eq, Bool.not_eq_true', beq_eq_false_iff_ne, ne_eq] at h
  exact h.resolve_left hab
theorem vt_na0 : (vw_Ar.all wo_nF) = true := by decide
theorem vt_na (j : Nat) (ty : FieldType) (h : vw_Ar[j]? = some ty) : wo_nF ty = true := List.all_eq_true.mp vt_na0 ty (List.mem_of_getElem? h)
def vw_Nc : List (String × String) := [("[B", "java/lang/Cloneable"), ("EdgeCache$Resource", "EdgeCache$Resource"), ("EdgeCache$Stored", "EdgeCache$Stored"), ("EdgeCache$Job", "EdgeCache$Job"), ("EdgeCache", "java/lang/Object"), ("EdgeCache$Origin", "java/lang/Object"), ("EdgeCache$Sheet", "java/lang/Object"), ("EdgeCache$Store", "java/lang/Object"), ("EdgeCache$Connection", "java/lang/Object"), ("EdgeCache$Reader", "java/lang/Object"), ("EdgeCache$Request", "java/lang/Object"), ("EdgeCacheModel", "java/lang/Object"), ("java/lang/String", "java/lang/Object"), ("EdgeCache$Job", "java/lang/Object"), ("EdgeCache$Resource", "java/lang/Object"), ("EdgeCache$Representation", "java/lang/Object"), ("EdgeCache$Stored", "java/lang/Object")]
def vw_Nm : List (String × Nat × MethodName × String) := [("EdgeCache", 17, ⟨"EdgeCache$Origin", "<init>", "()V"⟩, "EdgeCache"), ("EdgeCache", 24, ⟨"EdgeCache$Sheet", "<init>", "()V"⟩, "EdgeCache"), ("EdgeCache", 60, ⟨"EdgeCache$Connection", "<init>", "()V"⟩, "EdgeCache"), ("EdgeCache$Connection", 9, ⟨"EdgeCache$Reader", "<init>", "()V"⟩, "EdgeCache"), ("EdgeCache$Reader", 26, ⟨"EdgeCache$Request", "<init>", "()V"⟩, "EdgeCache")]
def vw_Sr : List (String × Nat × String × Nat) := [("EdgeCache$Request", 15, "", 0), ("java/lang/StringLatin1", 151, "", 1), ("java/lang/StringUTF16", 295, "", 2), ("EdgeCache$Request", 24, "GET", 3), ("EdgeCache$Request", 32, "HEAD", 4), ("EdgeCache$Request", 34, "PUT", 5), ("EdgeCache$Request", 36, "DELETE", 6), ("EdgeCache$Text", 74, "0123456789ABCDEF", 7), ("EdgeCache$Text", 91, "..", 8), ("EdgeCache$Text", 93, ".", 9), ("EdgeCache$Reader", 131, "c", 10), ("EdgeCache$Text", 35, "*", 11), ("EdgeCache$Origin", 119, "", 12), ("EdgeCache$Sheet", 107, "K:", 13), ("EdgeCache$Sheet", 120, "Y:V\n", 14), ("EdgeCache$Sheet", 129, "P:", 15), ("EdgeCache$Sheet", 134, "R:*/", 16), ("EdgeCache$Sheet", 136, "\nL:0\n\n", 17), ("EdgeCache$Sheet", 145, "R:", 18)]
def vw_Ao : List String := ["EdgeCache$Connection", "EdgeCache$Job", "EdgeCache$Request", "EdgeCache$Representation", "java/lang/Object"]
def vw_Mc : String := "[Ljava/lang/Object;"
abbrev vw_Mt : FieldType := .object "java/lang/Object"
theorem vt_mc : "[" ++ (FieldType.object "java/lang/Object").toString = vw_Mc := by decide +kernel
def vw_Fit : List (Nat × Nat) := [(0, 6), (3, 10), (4, 8), (6, 12), (7, 0), (7, 1), (7, 3), (7, 5), (7, 6), (7, 7), (7, 8), (7, 9), (7, 10), (7, 11), (7, 12), (7, 13), (7, 14)]
theorem vt_fit : ∀ q ∈ vw_Fit, ∃ (C : String) (r : vw_C), vw_Ar[q.1]? = some (.object C) ∧ vw_Cl[q.2]? = some r ∧ (r.1 = C ∨ (r.1, C) ∈ vw_Nc) := List.forall_mem_cons.mpr ⟨⟨_, _, rfl, rfl, Or.inl rfl⟩, List.forall_mem_cons.mpr ⟨⟨_, _, rfl, rfl, Or.inl rfl⟩, List.forall_mem_cons.mpr ⟨⟨_, _, rfl, rfl, Or.inl rfl⟩, List.forall_mem_cons.mpr ⟨⟨_, _, rfl, rfl, Or.inl rfl⟩, List.forall_mem_cons.mpr ⟨⟨_, _, rfl, rfl, Or.inr (by decide)⟩, List.forall_mem_cons.mpr ⟨⟨_, _, rfl, rfl, Or.inr (by decide)⟩, List.forall_mem_cons.mpr ⟨⟨_, _, rfl, rfl, Or.inr (by decide)⟩, List.forall_mem_cons.mpr ⟨⟨_, _, rfl, rfl, Or.inr (by decide)⟩, List.forall_mem_cons.mpr ⟨⟨_, _, rfl, rfl, Or.inr (by decide)⟩, List.forall_mem_cons.mpr ⟨⟨_, _, rfl, rfl, Or.inr (by decide)⟩, List.forall_mem_cons.mpr ⟨⟨_, _, rfl, rfl, Or.inr (by decide)⟩, List.forall_mem_cons.mpr ⟨⟨_, _, rfl, rfl, Or.inr (by decide)⟩, List.forall_mem_cons.mpr ⟨⟨_, _, rfl, rfl, Or.inr (by decide)⟩, List.forall_mem_cons.mpr ⟨⟨_, _, rfl, rfl, Or.inr (by decide)⟩, List.forall_mem_cons.mpr ⟨⟨_, _, rfl, rfl, Or.inr (by decide)⟩, List.forall_mem_cons.mpr ⟨⟨_, _, rfl, rfl, Or.inr (by decide)⟩, List.forall_mem_cons.mpr ⟨⟨_, _, rfl, rfl, Or.inr (by decide)⟩, fun _ h => absurd h List.not_mem_nil⟩⟩⟩⟩⟩⟩⟩⟩⟩⟩⟩⟩⟩⟩⟩⟩⟩
def vw_Zi : List (String × String × String × Int32) := [("java/lang/String", "COMPACT_STRINGS", "Z", 1)]
def vw_Za : List (String × String × String × Nat) := [("java/util/ArrayList", "DEFAULTCAPACITY_EMPTY_ELEMENTDATA", "[Ljava/lang/Object;", 0), ("java/lang/Integer", "DigitOnes", "[B", 1), ("java/lang/Integer", "DigitTens", "[B", 2)]
def vw_Zr : List (String × String × String) := [("jdk/internal/util/Preconditions", "SIOOBE_FORMATTER", "Ljava/util/function/BiFunction;")]
theorem vt_oi1 : Cond.instanceMethod Lib.objectInit ∈ vw_WG := (wg_t 36 rfl rfl)
theorem vt_oi2 : Cond.code Lib.objectInit ⟨#[0xb1]⟩ 1 none ∈ vw_WG := (wg_t 37 rfl rfl)
theorem vt_mx0 : Cond.initialized "java/lang/Math" ∈ vw_WG := (wg_t 12 rfl rfl)
theorem vt_mx1 : Cond.static Lib.Math.max.name ∈ vw_WG := (wg_t 143 rfl rfl)
theorem vt_mx2 : Cond.code Lib.Math.max.name Lib.Math.max.code 2 (some .int) ∈ vw_WG := (wg_t 144 rfl rfl)
theorem vt_mn1 : Cond.static Lib.Math.min.name ∈ vw_WG := (wg_t 140 rfl rfl)
theorem vt_mn2 : Cond.code Lib.Math.min.name Lib.Math.min.code 2 (some .int) ∈ vw_WG := (wg_t 141 rfl rfl)
theorem vt_ac1 : Cond.native arraycopyName ∈ vw_WG := (wg_t 379 rfl rfl)
theorem vt_ac2 : Cond.static arraycopyName ∈ vw_WG := (wg_t 378 rfl rfl)
theorem vt_ac3 : Cond.initialized "java/lang/System" ∈ vw_WG := (wg_t 19 rfl rfl)
theorem vt_gc1 : Cond.selects vw_Mc ⟨"java/lang/Object", "getClass", "()Ljava/lang/Class;"⟩ ⟨"java/lang/Object", "getClass", "()Ljava/lang/Class;"⟩ ∈ vw_WG := (wg_t 1773 rfl rfl)
theorem vt_gc2 : Cond.instanceMethod ⟨"java/lang/Object", "getClass", "()Ljava/lang/Class;"⟩ ∈ vw_WG := (wg_t 923 rfl rfl)
theorem vt_gc3 : Cond.native ⟨"java/lang/Object", "getClass", "()Ljava/lang/Class;"⟩ ∈ vw_WG := (wg_t 940 rfl rfl)
