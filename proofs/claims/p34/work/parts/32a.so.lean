/-! the texts, as the premises have them -/
set_option maxHeartbeats 4000000 in
set_option maxRecDepth 100000 in
theorem so_0 {s : State} {b : Nat} (hts : ∀ w ∈ lw_tbl, w.before #[Value.ref b] s = true) (hgv : (Jvm.Cond.and given_1 narrow_1).before #[Value.ref b] s = true) {A : Nat → Prop} (hA : ∀ a : Nat, a < s.heap.size → ¬ A a) : ∃ a v : Nat, vk_R RX3 58 "reach" a s ∧ sO A s s.heap a v 5 [114, 101, 97, 99, 104] := by
  have hs := flat_of_before _ hgv
  have e0 : (Cond.eq (.elem (.field (.string RX3 58) "java/lang/String" "value" "[B") (.int (Int32.ofNat 0))) (.int (([[114, 101, 97, 99, 104]].getD 0 []).getD 0 0))).before #[Value.ref b] s = true := hs _ (by decide +kernel)
  have e1 : (Cond.eq (.elem (.field (.string RX3 58) "java/lang/String" "value" "[B") (.int (Int32.ofNat 1))) (.int (([[114, 101, 97, 99, 104]].getD 0 []).getD 1 0))).before #[Value.ref b] s = true := hs _ (by decide +kernel)
  have e2 : (Cond.eq (.elem (.field (.string RX3 58) "java/lang/String" "value" "[B") (.int (Int32.ofNat 2))) (.int (([[114, 101, 97, 99, 104]].getD 0 []).getD 2 0))).before #[Value.ref b] s = true := hs _ (by decide +kernel)
  have e3 : (Cond.eq (.elem (.field (.string RX3 58) "java/lang/String" "value" "[B") (.int (Int32.ofNat 3))) (.int (([[114, 101, 97, 99, 104]].getD 0 []).getD 3 0))).before #[Value.ref b] s = true := hs _ (by decide +kernel)
  have e4 : (Cond.eq (.elem (.field (.string RX3 58) "java/lang/String" "value" "[B") (.int (Int32.ofNat 4))) (.int (([[114, 101, 97, 99, 104]].getD 0 []).getD 4 0))).before #[Value.ref b] s = true := hs _ (by decide +kernel)
  have hex : (Cond.exactly (.string RX3 58) "java/lang/String").before #[Value.ref b] s = true := hs _ (by decide +kernel)
  have hco : (Cond.eq (.field (.string RX3 58) "java/lang/String" "coder" "B") (.int 0)).before #[Value.ref b] s = true := hs _ (by decide +kernel)
  have har : (Cond.arrayOf (.field (.string RX3 58) "java/lang/String" "value" "[B") .byte).before #[Value.ref b] s = true := hs _ (by decide +kernel)
  have hle : (Cond.eq (.length (.field (.string RX3 58) "java/lang/String" "value" "[B")) (.int (Int32.ofNat ([5].getD 0 0)))).before #[Value.ref b] s = true := hs _ (by decide +kernel)
  have z0 : ∀ i : Nat, i < 1 → i = 0 := fun i h => by omega
  obtain ⟨adK, adV, h1, h2⟩ := vk_Sof (args := #[Value.ref b]) (s := s) (N := 1) (tm := fun _ => (.string RX3 58)) (len := [5]) (byt := [[114, 101, 97, 99, 104]]) (A := A) (fun i h => by rw [z0 i h]; decide) (fun _ _ => hex) (fun _ _ => hco) (fun _ _ => har) (fun i h => by rw [z0 i h]; exact hle) (fun i h j hj => by
    rw [z0 i h] at hj ⊢
    have hj : j < 5 := hj
    rcases (by omega : j = 0 ∨ j = 1 ∨ j = 2 ∨ j = 3 ∨ j = 4) with q | q | q | q | q
    · rw [q]; exact e0
    · rw [q]; exact e1
    · rw [q]; exact e2
    · rw [q]; exact e3
    · rw [q]; exact e4
    ) (fun i j hi hj hne => absurd ((z0 i hi).trans (z0 j hj).symm) hne) hA
  have h3 := h1.1 0 (by omega)
  exact ⟨adK 0, adV 0, vk_R.of (hts (.stringRef RX3 58 "reach") (List.mem_of_getElem? (i := 622) (by decide +kernel))) (h2 0 (by omega)), fun j => ([[114, 101, 97, 99, 104]].getD 0 []).getD j 0, h3.1, h3.2.1, h3.2.2.1, h3.2.2.2, (by decide)⟩
set_option maxHeartbeats 4000000 in
set_option maxRecDepth 100000 in
theorem so_1 {s : State} {b : Nat} (hts : ∀ w ∈ lw_tbl, w.before #[Value.ref b] s = true) (hgv : (Jvm.Cond.and given_1 narrow_1).before #[Value.ref b] s = true) {A : Nat → Prop} (hA : ∀ a : Nat, a < s.heap.size → ¬ A a) : ∃ a v : Nat, vk_R RX3 90 "mouth" a s ∧ sO A s s.heap a v 5 [109, 111, 117, 116, 104] := by
  have hs := flat_of_before _ hgv
  have e0 : (Cond.eq (.elem (.field (.string RX3 90) "java/lang/String" "value" "[B") (.int (Int32.ofNat 0))) (.int (([[109, 111, 117, 116, 104]].getD 0 []).getD 0 0))).before #[Value.ref b] s = true := hs _ (by decide +kernel)
  have e1 : (Cond.eq (.elem (.field (.string RX3 90) "java/lang/String" "value" "[B") (.int (Int32.ofNat 1))) (.int (([[109, 111, 117, 116, 104]].getD 0 []).getD 1 0))).before #[Value.ref b] s = true := hs _ (by decide +kernel)
  have e2 : (Cond.eq (.elem (.field (.string RX3 90) "java/lang/String" "value" "[B") (.int (Int32.ofNat 2))) (.int (([[109, 111, 117, 116, 104]].getD 0 []).getD 2 0))).before #[Value.ref b] s = true := hs _ (by decide +kernel)
  have e3 : (Cond.eq (.elem (.field (.string RX3 90) "java/lang/String" "value" "[B") (.int (Int32.ofNat 3))) (.int (([[109, 111, 117, 116, 104]].getD 0 []).getD 3 0))).before #[Value.ref b] s = true := hs _ (by decide +kernel)
  have e4 : (Cond.eq (.elem (.field (.string RX3 90) "java/lang/String" "value" "[B") (.int (Int32.ofNat 4))) (.int (([[109, 111, 117, 116, 104]].getD 0 []).getD 4 0))).before #[Value.ref b] s = true := hs _ (by decide +kernel)
  have hex : (Cond.exactly (.string RX3 90) "java/lang/String").before #[Value.ref b] s = true := hs _ (by decide +kernel)
  have hco : (Cond.eq (.field (.string RX3 90) "java/lang/String" "coder" "B") (.int 0)).before #[Value.ref b] s = true := hs _ (by decide +kernel)
  have har : (Cond.arrayOf (.field (.string RX3 90) "java/lang/String" "value" "[B") .byte).before #[Value.ref b] s = true := hs _ (by decide +kernel)
  have hle : (Cond.eq (.length (.field (.string RX3 90) "java/lang/String" "value" "[B")) (.int (Int32.ofNat ([5].getD 0 0)))).before #[Value.ref b] s = true := hs _ (by decide +kernel)
  have z0 : ∀ i : Nat, i < 1 → i = 0 := fun i h => by omega
  obtain ⟨adK, adV, h1, h2⟩ := vk_Sof (args := #[Value.ref b]) (s := s) (N := 1) (tm := fun _ => (.string RX3 90)) (len := [5]) (byt := [[109, 111, 117, 116, 104]]) (A := A) (fun i h => by rw [z0 i h]; decide) (fun _ _ => hex) (fun _ _ => hco) (fun _ _ => har) (fun i h => by rw [z0 i h]; exact hle) (fun i h j hj => by
    rw [z0 i h] at hj ⊢
    have hj : j < 5 := hj
    rcases (by omega : j = 0 ∨ j = 1 ∨ j = 2 ∨ j = 3 ∨ j = 4) with q | q | q | q | q
    · rw [q]; exact e0
    · rw [q]; exact e1
    · rw [q]; exact e2
    · rw [q]; exact e3
    · rw [q]; exact e4
    ) (fun i j hi hj hne => absurd ((z0 i hi).trans (z0 j hj).symm) hne) hA
  have h3 := h1.1 0 (by omega)
  exact ⟨adK 0, adV 0, vk_R.of (hts (.stringRef RX3 90 "mouth") (List.mem_of_getElem? (i := 683) (by decide +kernel))) (h2 0 (by omega)), fun j => ([[109, 111, 117, 116, 104]].getD 0 []).getD j 0, h3.1, h3.2.1, h3.2.2.1, h3.2.2.2, (by decide)⟩
set_option maxHeartbeats 4000000 in
set_option maxRecDepth 100000 in
theorem so_2 {s : State} {b : Nat} (hts : ∀ w ∈ lw_tbl, w.before #[Value.ref b] s = true) (hgv : (Jvm.Cond.and given_1 narrow_1).before #[Value.ref b] s = true) {A : Nat → Prop} (hA : ∀ a : Nat, a < s.heap.size → ¬ A a) : ∃ a v : Nat, vk_R RX3 105 "sink" a s ∧ sO A s s.heap a v 4 [115, 105, 110, 107] := by
  have hs := flat_of_before _ hgv
  have e0 : (Cond.eq (.elem (.field (.string RX3 105) "java/lang/String" "value" "[B") (.int (Int32.ofNat 0))) (.int (([[115, 105, 110, 107]].getD 0 []).getD 0 0))).before #[Value.ref b] s = true := hs _ (by decide +kernel)
  have e1 : (Cond.eq (.elem (.field (.string RX3 105) "java/lang/String" "value" "[B") (.int (Int32.ofNat 1))) (.int (([[115, 105, 110, 107]].getD 0 []).getD 1 0))).before #[Value.ref b] s = true := hs _ (by decide +kernel)
  have e2 : (Cond.eq (.elem (.field (.string RX3 105) "java/lang/String" "value" "[B") (.int (Int32.ofNat 2))) (.int (([[115, 105, 110, 107]].getD 0 []).getD 2 0))).before #[Value.ref b] s = true := hs _ (by decide +kernel)
  have e3 : (Cond.eq (.elem (.field (.string RX3 105) "java/lang/String" "value" "[B") (.int (Int32.ofNat 3))) (.int (([[115, 105, 110, 107]].getD 0 []).getD 3 0))).before #[Value.ref b] s = true := hs _ (by decide +kernel)
  have hex : (Cond.exactly (.string RX3 105) "java/lang/String").before #[Value.ref b] s = true := hs _ (by decide +kernel)
  have hco : (Cond.eq (.field (.string RX3 105) "java/lang/String" "coder" "B") (.int 0)).before #[Value.ref b] s = true := hs _ (by decide +kernel)
  have har : (Cond.arrayOf (.field (.string RX3 105) "java/lang/String" "value" "[B") .byte).before #[Value.ref b] s = true := hs _ (by decide +kernel)
  have hle : (Cond.eq (.length (.field (.string RX3 105) "java/lang/String" "value" "[B")) (.int (Int32.ofNat ([4].getD 0 0)))).before #[Value.ref b] s = true := hs _ (by decide +kernel)
  have z0 : ∀ i : Nat, i < 1 → i = 0 := fun i h => by omega
  obtain ⟨adK, adV, h1, h2⟩ := vk_Sof (args := #[Value.ref b]) (s := s) (N := 1) (tm := fun _ => (.string RX3 105)) (len := [4]) (byt := [[115, 105, 110, 107]]) (A := A) (fun i h => by rw [z0 i h]; decide) (fun _ _ => hex) (fun _ _ => hco) (fun _ _ => har) (fun i h => by rw [z0 i h]; exact hle) (fun i h j hj => by
    rw [z0 i h] at hj ⊢
    have hj : j < 4 := hj
    rcases (by omega : j = 0 ∨ j = 1 ∨ j = 2 ∨ j = 3) with q | q | q | q
    · rw [q]; exact e0
    · rw [q]; exact e1
    · rw [q]; exact e2
    · rw [q]; exact e3
    ) (fun i j hi hj hne => absurd ((z0 i hi).trans (z0 j hj).symm) hne) hA
  have h3 := h1.1 0 (by omega)
  exact ⟨adK 0, adV 0, vk_R.of (hts (.stringRef RX3 105 "sink") (List.mem_of_getElem? (i := 693) (by decide +kernel))) (h2 0 (by omega)), fun j => ([[115, 105, 110, 107]].getD 0 []).getD j 0, h3.1, h3.2.1, h3.2.2.1, h3.2.2.2, (by decide)⟩
set_option maxHeartbeats 4000000 in
set_option maxRecDepth 100000 in
theorem so_3 {s : State} {b : Nat} (hts : ∀ w ∈ lw_tbl, w.before #[Value.ref b] s = true) (hgv : (Jvm.Cond.and given_1 narrow_1).before #[Value.ref b] s = true) {A : Nat → Prop} (hA : ∀ a : Nat, a < s.heap.size → ¬ A a) : ∃ a v : Nat, vk_R RX3 68 "right" a s ∧ sO A s s.heap a v 5 [114, 105, 103, 104, 116] := by
  have hs := flat_of_before _ hgv
  have e0 : (Cond.eq (.elem (.field (.string RX3 68) "java/lang/String" "value" "[B") (.int (Int32.ofNat 0))) (.int (([[114, 105, 103, 104, 116]].getD 0 []).getD 0 0))).before #[Value.ref b] s = true := hs _ (by decide +kernel)
  have e1 : (Cond.eq (.elem (.field (.string RX3 68) "java/lang/String" "value" "[B") (.int (Int32.ofNat 1))) (.int (([[114, 105, 103, 104, 116]].getD 0 []).getD 1 0))).before #[Value.ref b] s = true := hs _ (by decide +kernel)
  have e2 : (Cond.eq (.elem (.field (.string RX3 68) "java/lang/String" "value" "[B") (.int (Int32.ofNat 2))) (.int (([[114, 105, 103, 104, 116]].getD 0 []).getD 2 0))).before #[Value.ref b] s = true := hs _ (by decide +kernel)
  have e3 : (Cond.eq (.elem (.field (.string RX3 68) "java/lang/String" "value" "[B") (.int (Int32.ofNat 3))) (.int (([[114, 105, 103, 104, 116]].getD 0 []).getD 3 0))).before #[Value.ref b] s = true := hs _ (by decide +kernel)
  have e4 : (Cond.eq (.elem (.field (.string RX3 68) "java/lang/String" "value" "[B") (.int (Int32.ofNat 4))) (.int (([[114, 105, 103, 104, 116]].getD 0 []).getD 4 0))).before #[Value.ref b] s = true := hs _ (by decide +kernel)
  have hex : (Cond.exactly (.string RX3 68) "java/lang/String").before #[Value.ref b] s = true := hs _ (by decide +kernel)
  have hco : (Cond.eq (.field (.string RX3 68) "java/lang/String" "coder" "B") (.int 0)).before #[Value.ref b] s = true := hs _ (by decide +kernel)
  have har : (Cond.arrayOf (.field (.string RX3 68) "java/lang/String" "value" "[B") .byte).before #[Value.ref b] s = true := hs _ (by decide +kernel)
  have hle : (Cond.eq (.length (.field (.string RX3 68) "java/lang/String" "value" "[B")) (.int (Int32.ofNat ([5].getD 0 0)))).before #[Value.ref b] s = true := hs _ (by decide +kernel)
  have z0 : ∀ i : Nat, i < 1 → i = 0 := fun i h => by omega
  obtain ⟨adK, adV, h1, h2⟩ := vk_Sof (args := #[Value.ref b]) (s := s) (N := 1) (tm := fun _ => (.string RX3 68)) (len := [5]) (byt := [[114, 105, 103, 104, 116]]) (A := A) (fun i h => by rw [z0 i h]; decide) (fun _ _ => hex) (fun _ _ => hco) (fun _ _ => har) (fun i h => by rw [z0 i h]; exact hle) (fun i h j hj => by
    rw [z0 i h] at hj ⊢
    have hj : j < 5 := hj
    rcases (by omega : j = 0 ∨ j = 1 ∨ j = 2 ∨ j = 3 ∨ j = 4) with q | q | q | q | q
    · rw [q]; exact e0
    · rw [q]; exact e1
    · rw [q]; exact e2
    · rw [q]; exact e3
    · rw [q]; exact e4
    ) (fun i j hi hj hne => absurd ((z0 i hi).trans (z0 j hj).symm) hne) hA
  have h3 := h1.1 0 (by omega)
  exact ⟨adK 0, adV 0, vk_R.of (hts (.stringRef RX3 68 "right") (List.mem_of_getElem? (i := 694) (by decide +kernel))) (h2 0 (by omega)), fun j => ([[114, 105, 103, 104, 116]].getD 0 []).getD j 0, h3.1, h3.2.1, h3.2.2.1, h3.2.2.2, (by decide)⟩
set_option maxHeartbeats 4000000 in
set_option maxRecDepth 100000 in
theorem so_4 {s : State} {b : Nat} (hts : ∀ w ∈ lw_tbl, w.before #[Value.ref b] s = true) (hgv : (Jvm.Cond.and given_1 narrow_1).before #[Value.ref b] s = true) {A : Nat → Prop} (hA : ∀ a : Nat, a < s.heap.size → ¬ A a) : ∃ a v : Nat, vk_R RX3 161 "age" a s ∧ sO A s s.heap a v 3 [97, 103, 101] := by
  have hs := flat_of_before _ hgv
  have e0 : (Cond.eq (.elem (.field (.string RX3 161) "java/lang/String" "value" "[B") (.int (Int32.ofNat 0))) (.int (([[97, 103, 101]].getD 0 []).getD 0 0))).before #[Value.ref b] s = true := hs _ (by decide +kernel)
  have e1 : (Cond.eq (.elem (.field (.string RX3 161) "java/lang/String" "value" "[B") (.int (Int32.ofNat 1))) (.int (([[97, 103, 101]].getD 0 []).getD 1 0))).before #[Value.ref b] s = true := hs _ (by decide +kernel)
  have e2 : (Cond.eq (.elem (.field (.string RX3 161) "java/lang/String" "value" "[B") (.int (Int32.ofNat 2))) (.int (([[97, 103, 101]].getD 0 []).getD 2 0))).before #[Value.ref b] s = true := hs _ (by decide +kernel)
  have hex : (Cond.exactly (.string RX3 161) "java/lang/String").before #[Value.ref b] s = true := hs _ (by decide +kernel)
  have hco : (Cond.eq (.field (.string RX3 161) "java/lang/String" "coder" "B") (.int 0)).before #[Value.ref b] s = true := hs _ (by decide +kernel)
  have har : (Cond.arrayOf (.field (.string RX3 161) "java/lang/String" "value" "[B") .byte).before #[Value.ref b] s = true := hs _ (by decide +kernel)
  have hle : (Cond.eq (.length (.field (.string RX3 161) "java/lang/String" "value" "[B")) (.int (Int32.ofNat ([3].getD 0 0)))).before #[Value.ref b] s = true := hs _ (by decide +kernel)
  have z0 : ∀ i : Nat, i < 1 → i = 0 := fun i h => by omega
  obtain ⟨adK, adV, h1, h2⟩ := vk_Sof (args := #[Value.ref b]) (s := s) (N := 1) (tm := fun _ => (.string RX3 161)) (len := [3]) (byt := [[97, 103, 101]]) (A := A) (fun i h => by rw [z0 i h]; decide) (fun _ _ => hex) (fun _ _ => hco) (fun _ _ => har) (fun i h => by rw [z0 i h]; exact hle) (fun i h j hj => by
    rw [z0 i h] at hj ⊢
    have hj : j < 3 := hj
    rcases (by omega : j = 0 ∨ j = 1 ∨ j = 2) with q | q | q
    · rw [q]; exact e0
    · rw [q]; exact e1
    · rw [q]; exact e2
    ) (fun i j hi hj hne => absurd ((z0 i hi).trans (z0 j hj).symm) hne) hA
  have h3 := h1.1 0 (by omega)
  exact ⟨adK 0, adV 0, vk_R.of (hts (.stringRef RX3 161 "age") (List.mem_of_getElem? (i := 703) (by decide +kernel))) (h2 0 (by omega)), fun j => ([[97, 103, 101]].getD 0 []).getD j 0, h3.1, h3.2.1, h3.2.2.1, h3.2.2.2, (by decide)⟩
set_option maxHeartbeats 4000000 in
set_option maxRecDepth 100000 in
theorem so_5 {s : State} {b : Nat} (hts : ∀ w ∈ lw_tbl, w.before #[Value.ref b] s = true) (hgv : (Jvm.Cond.and given_1 narrow_1).before #[Value.ref b] s = true) {A : Nat → Prop} (hA : ∀ a : Nat, a < s.heap.size → ¬ A a) : ∃ a v : Nat, vk_R RX3 130 "vol" a s ∧ sO A s s.heap a v 3 [118, 111, 108] := by
  have hs := flat_of_before _ hgv
  have e0 : (Cond.eq (.elem (.field (.string RX3 130) "java/lang/String" "value" "[B") (.int (Int32.ofNat 0))) (.int (([[118, 111, 108]].getD 0 []).getD 0 0))).before #[Value.ref b] s = true := hs _ (by decide +kernel)
  have e1 : (Cond.eq (.elem (.field (.string RX3 130) "java/lang/String" "value" "[B") (.int (Int32.ofNat 1))) (.int (([[118, 111, 108]].getD 0 []).getD 1 0))).before #[Value.ref b] s = true := hs _ (by decide +kernel)
  have e2 : (Cond.eq (.elem (.field (.string RX3 130) "java/lang/String" "value" "[B") (.int (Int32.ofNat 2))) (.int (([[118, 111, 108]].getD 0 []).getD 2 0))).before #[Value.ref b] s = true := hs _ (by decide +kernel)
  have hex : (Cond.exactly (.string RX3 130) "java/lang/String").before #[Value.ref b] s = true := hs _ (by decide +kernel)
  have hco : (Cond.eq (.field (.string RX3 130) "java/lang/String" "coder" "B") (.int 0)).before #[Value.ref b] s = true := hs _ (by decide +kernel)
  have har : (Cond.arrayOf (.field (.string RX3 130) "java/lang/String" "value" "[B") .byte).before #[Value.ref b] s = true := hs _ (by decide +kernel)
  have hle : (Cond.eq (.length (.field (.string RX3 130) "java/lang/String" "value" "[B")) (.int (Int32.ofNat ([3].getD 0 0)))).before #[Value.ref b] s = true := hs _ (by decide +kernel)
  have z0 : ∀ i : Nat, i < 1 → i = 0 := fun i h => by omega
  obtain ⟨adK, adV, h1, h2⟩ := vk_Sof (args := #[Value.ref b]) (s := s) (N := 1) (tm := fun _ => (.string RX3 130)) (len := [3]) (byt := [[118, 111, 108]]) (A := A) (fun i h => by rw [z0 i h]; decide) (fun _ _ => hex) (fun _ _ => hco) (fun _ _ => har) (fun i h => by rw [z0 i h]; exact hle) (fun i h j hj => by
    rw [z0 i h] at hj ⊢
    have hj : j < 3 := hj
    rcases (by omega : j = 0 ∨ j = 1 ∨ j = 2) with q | q | q
    · rw [q]; exact e0
    · rw [q]; exact e1
    · rw [q]; exact e2
    ) (fun i j hi hj hne => absurd ((z0 i hi).trans (z0 j hj).symm) hne) hA
  have h3 := h1.1 0 (by omega)
  exact ⟨adK 0, adV 0, vk_R.of (hts (.stringRef RX3 130 "vol") (List.mem_of_getElem? (i := 708) (by decide +kernel))) (h2 0 (by omega)), fun j => ([[118, 111, 108]].getD 0 []).getD j 0, h3.1, h3.2.1, h3.2.2.1, h3.2.2.2, (by decide)⟩
set_option maxHeartbeats 4000000 in
set_option maxRecDepth 100000 in
theorem so_6 {s : State} {b : Nat} (hts : ∀ w ∈ lw_tbl, w.before #[Value.ref b] s = true) (hgv : (Jvm.Cond.and given_1 narrow_1).before #[Value.ref b] s = true) {A : Nat → Prop} (hA : ∀ a : Nat, a < s.heap.size → ¬ A a) : ∃ a v : Nat, vk_R RX3 133 "back" a s ∧ sO A s s.heap a v 4 [98, 97, 99, 107] := by
  have hs := flat_of_before _ hgv
  have e0 : (Cond.eq (.elem (.field (.string RX3 133) "java/lang/String" "value" "[B") (.int (Int32.ofNat 0))) (.int (([[98, 97, 99, 107]].getD 0 []).getD 0 0))).before #[Value.ref b] s = true := hs _ (by decide +kernel)
  have e1 : (Cond.eq (.elem (.field (.string RX3 133) "java/lang/String" "value" "[B") (.int (Int32.ofNat 1))) (.int (([[98, 97, 99, 107]].getD 0 []).getD 1 0))).before #[Value.ref b] s = true := hs _ (by decide +kernel)
  have e2 : (Cond.eq (.elem (.field (.string RX3 133) "java/lang/String" "value" "[B") (.int (Int32.ofNat 2))) (.int (([[98, 97, 99, 107]].getD 0 []).getD 2 0))).before #[Value.ref b] s = true := hs _ (by decide +kernel)
  have e3 : (Cond.eq (.elem (.field (.string RX3 133) "java/lang/String" "value" "[B") (.int (Int32.ofNat 3))) (.int (([[98, 97, 99, 107]].getD 0 []).getD 3 0))).before #[Value.ref b] s = true := hs _ (by decide +kernel)
  have hex : (Cond.exactly (.string RX3 133) "java/lang/String").before #[Value.ref b] s = true := hs _ (by decide +kernel)
  have hco : (Cond.eq (.field (.string RX3 133) "java/lang/String" "coder" "B") (.int 0)).before #[Value.ref b] s = true := hs _ (by decide +kernel)
  have har : (Cond.arrayOf (.field (.string RX3 133) "java/lang/String" "value" "[B") .byte).before #[Value.ref b] s = true := hs _ (by decide +kernel)
  have hle : (Cond.eq (.length (.field (.string RX3 133) "java/lang/String" "value" "[B")) (.int (Int32.ofNat ([4].getD 0 0)))).before #[Value.ref b] s = true := hs _ (by decide +kernel)
  have z0 : ∀ i : Nat, i < 1 → i = 0 := fun i h => by omega
  obtain ⟨adK, adV, h1, h2⟩ := vk_Sof (args := #[Value.ref b]) (s := s) (N := 1) (tm := fun _ => (.string RX3 133)) (len := [4]) (byt := [[98, 97, 99, 107]]) (A := A) (fun i h => by rw [z0 i h]; decide) (fun _ _ => hex) (fun _ _ => hco) (fun _ _ => har) (fun i h => by rw [z0 i h]; exact hle) (fun i h j hj => by
    rw [z0 i h] at hj ⊢
    have hj : j < 4 := hj
    rcases (by omega : j = 0 ∨ j = 1 ∨ j = 2 ∨ j = 3) with q | q | q | q
    · rw [q]; exact e0
    · rw [q]; exact e1
    · rw [q]; exact e2
    · rw [q]; exact e3
    ) (fun i j hi hj hne => absurd ((z0 i hi).trans (z0 j hj).symm) hne) hA
  have h3 := h1.1 0 (by omega)
  exact ⟨adK 0, adV 0, vk_R.of (hts (.stringRef RX3 133 "back") (List.mem_of_getElem? (i := 710) (by decide +kernel))) (h2 0 (by omega)), fun j => ([[98, 97, 99, 107]].getD 0 []).getD j 0, h3.1, h3.2.1, h3.2.2.1, h3.2.2.2, (by decide)⟩
set_option maxHeartbeats 4000000 in
set_option maxRecDepth 100000 in
theorem so_7 {s : State} {b : Nat} (hts : ∀ w ∈ lw_tbl, w.before #[Value.ref b] s = true) (hgv : (Jvm.Cond.and given_1 narrow_1).before #[Value.ref b] s = true) {A : Nat → Prop} (hA : ∀ a : Nat, a < s.heap.size → ¬ A a) : ∃ a v : Nat, vk_R RX3 73 "store" a s ∧ sO A s s.heap a v 5 [115, 116, 111, 114, 101] := by
  have hs := flat_of_before _ hgv
  have e0 : (Cond.eq (.elem (.field (.string RX3 73) "java/lang/String" "value" "[B") (.int (Int32.ofNat 0))) (.int (([[115, 116, 111, 114, 101]].getD 0 []).getD 0 0))).before #[Value.ref b] s = true := hs _ (by decide +kernel)
  have e1 : (Cond.eq (.elem (.field (.string RX3 73) "java/lang/String" "value" "[B") (.int (Int32.ofNat 1))) (.int (([[115, 116, 111, 114, 101]].getD 0 []).getD 1 0))).before #[Value.ref b] s = true := hs _ (by decide +kernel)
  have e2 : (Cond.eq (.elem (.field (.string RX3 73) "java/lang/String" "value" "[B") (.int (Int32.ofNat 2))) (.int (([[115, 116, 111, 114, 101]].getD 0 []).getD 2 0))).before #[Value.ref b] s = true := hs _ (by decide +kernel)
  have e3 : (Cond.eq (.elem (.field (.string RX3 73) "java/lang/String" "value" "[B") (.int (Int32.ofNat 3))) (.int (([[115, 116, 111, 114, 101]].getD 0 []).getD 3 0))).before #[Value.ref b] s = true := hs _ (by decide +kernel)
  have e4 : (Cond.eq (.elem (.field (.string RX3 73) "java/lang/String" "value" "[B") (.int (Int32.ofNat 4))) (.int (([[115, 116, 111, 114, 101]].getD 0 []).getD 4 0))).before #[Value.ref b] s = true := hs _ (by decide +kernel)
  have hex : (Cond.exactly (.string RX3 73) "java/lang/String").before #[Value.ref b] s = true := hs _ (by decide +kernel)
  have hco : (Cond.eq (.field (.string RX3 73) "java/lang/String" "coder" "B") (.int 0)).before #[Value.ref b] s = true := hs _ (by decide +kernel)
  have har : (Cond.arrayOf (.field (.string RX3 73) "java/lang/String" "value" "[B") .byte).before #[Value.ref b] s = true := hs _ (by decide +kernel)
  have hle : (Cond.eq (.length (.field (.string RX3 73) "java/lang/String" "value" "[B")) (.int (Int32.ofNat ([5].getD 0 0)))).before #[Value.ref b] s = true := hs _ (by decide +kernel)
  have z0 : ∀ i : Nat, i < 1 → i = 0 := fun i h => by omega
  obtain ⟨adK, adV, h1, h2⟩ := vk_Sof (args := #[Value.ref b]) (s := s) (N := 1) (tm := fun _ => (.string RX3 73)) (len := [5]) (byt := [[115, 116, 111, 114, 101]]) (A := A) (fun i h => by rw [z0 i h]; decide) (fun _ _ => hex) (fun _ _ => hco) (fun _ _ => har) (fun i h => by rw [z0 i h]; exact hle) (fun i h j hj => by
    rw [z0 i h] at hj ⊢
    have hj : j < 5 := hj
    rcases (by omega : j = 0 ∨ j = 1 ∨ j = 2 ∨ j = 3 ∨ j = 4) with q | q | q | q | q
    · rw [q]; exact e0
    · rw [q]; exact e1
    · rw [q]; exact e2
    · rw [q]; exact e3
    · rw [q]; exact e4
    ) (fun i j hi hj hne => absurd ((z0 i hi).trans (z0 j hj).symm) hne) hA
  have h3 := h1.1 0 (by omega)
  exact ⟨adK 0, adV 0, vk_R.of (hts (.stringRef RX3 73 "store") (List.mem_of_getElem? (i := 711) (by decide +kernel))) (h2 0 (by omega)), fun j => ([[115, 116, 111, 114, 101]].getD 0 []).getD j 0, h3.1, h3.2.1, h3.2.2.1, h3.2.2.2, (by decide)⟩
set_option maxHeartbeats 4000000 in
set_option maxRecDepth 100000 in
theorem so_8 {s : State} {b : Nat} (hts : ∀ w ∈ lw_tbl, w.before #[Value.ref b] s = true) (hgv : (Jvm.Cond.and given_1 narrow_1).before #[Value.ref b] s = true) {A : Nat → Prop} (hA : ∀ a : Nat, a < s.heap.size → ¬ A a) : ∃ a v : Nat, vk_R RX3 78 "wet" a s ∧ sO A s s.heap a v 3 [119, 101, 116] := by
  have hs := flat_of_before _ hgv
  have e0 : (Cond.eq (.elem (.field (.string RX3 78) "java/lang/String" "value" "[B") (.int (Int32.ofNat 0))) (.int (([[119, 101, 116]].getD 0 []).getD 0 0))).before #[Value.ref b] s = true := hs _ (by decide +kernel)
  have e1 : (Cond.eq (.elem (.field (.string RX3 78) "java/lang/String" "value" "[B") (.int (Int32.ofNat 1))) (.int (([[119, 101, 116]].getD 0 []).getD 1 0))).before #[Value.ref b] s = true := hs _ (by decide +kernel)
  have e2 : (Cond.eq (.elem (.field (.string RX3 78) "java/lang/String" "value" "[B") (.int (Int32.ofNat 2))) (.int (([[119, 101, 116]].getD 0 []).getD 2 0))).before #[Value.ref b] s = true := hs _ (by decide +kernel)
  have hex : (Cond.exactly (.string RX3 78) "java/lang/String").before #[Value.ref b] s = true := hs _ (by decide +kernel)
  have hco : (Cond.eq (.field (.string RX3 78) "java/lang/String" "coder" "B") (.int 0)).before #[Value.ref b] s = true := hs _ (by decide +kernel)
  have har : (Cond.arrayOf (.field (.string RX3 78) "java/lang/String" "value" "[B") .byte).before #[Value.ref b] s = true := hs _ (by decide +kernel)
  have hle : (Cond.eq (.length (.field (.string RX3 78) "java/lang/String" "value" "[B")) (.int (Int32.ofNat ([3].getD 0 0)))).before #[Value.ref b] s = true := hs _ (by decide +kernel)
  have z0 : ∀ i : Nat, i < 1 → i = 0 := fun i h => by omega
  obtain ⟨adK, adV, h1, h2⟩ := vk_Sof (args := #[Value.ref b]) (s := s) (N := 1) (tm := fun _ => (.string RX3 78)) (len := [3]) (byt := [[119, 101, 116]]) (A := A) (fun i h => by rw [z0 i h]; decide) (fun _ _ => hex) (fun _ _ => hco) (fun _ _ => har) (fun i h => by rw [z0 i h]; exact hle) (fun i h j hj => by
    rw [z0 i h] at hj ⊢
    have hj : j < 3 := hj
    rcases (by omega : j = 0 ∨ j = 1 ∨ j = 2) with q | q | q
    · rw [q]; exact e0
    · rw [q]; exact e1
    · rw [q]; exact e2
    ) (fun i j hi hj hne => absurd ((z0 i hi).trans (z0 j hj).symm) hne) hA
  have h3 := h1.1 0 (by omega)
  exact ⟨adK 0, adV 0, vk_R.of (hts (.stringRef RX3 78 "wet") (List.mem_of_getElem? (i := 716) (by decide +kernel))) (h2 0 (by omega)), fun j => ([[119, 101, 116]].getD 0 []).getD j 0, h3.1, h3.2.1, h3.2.2.1, h3.2.2.2, (by decide)⟩
set_option maxHeartbeats 4000000 in
set_option maxRecDepth 100000 in
theorem so_9 {s : State} {b : Nat} (hts : ∀ w ∈ lw_tbl, w.before #[Value.ref b] s = true) (hgv : (Jvm.Cond.and given_1 narrow_1).before #[Value.ref b] s = true) {A : Nat → Prop} (hA : ∀ a : Nat, a < s.heap.size → ¬ A a) : ∃ a v : Nat, vk_R RX4 63 "reach" a s ∧ sO A s s.heap a v 5 [114, 101, 97, 99, 104] := by
  have hs := flat_of_before _ hgv
  have e0 : (Cond.eq (.elem (.field (.string RX4 63) "java/lang/String" "value" "[B") (.int (Int32.ofNat 0))) (.int (([[114, 101, 97, 99, 104]].getD 0 []).getD 0 0))).before #[Value.ref b] s = true := hs _ (by decide +kernel)
  have e1 : (Cond.eq (.elem (.field (.string RX4 63) "java/lang/String" "value" "[B") (.int (Int32.ofNat 1))) (.int (([[114, 101, 97, 99, 104]].getD 0 []).getD 1 0))).before #[Value.ref b] s = true := hs _ (by decide +kernel)
  have e2 : (Cond.eq (.elem (.field (.string RX4 63) "java/lang/String" "value" "[B") (.int (Int32.ofNat 2))) (.int (([[114, 101, 97, 99, 104]].getD 0 []).getD 2 0))).before #[Value.ref b] s = true := hs _ (by decide +kernel)
  have e3 : (Cond.eq (.elem (.field (.string RX4 63) "java/lang/String" "value" "[B") (.int (Int32.ofNat 3))) (.int (([[114, 101, 97, 99, 104]].getD 0 []).getD 3 0))).before #[Value.ref b] s = true := hs _ (by decide +kernel)
  have e4 : (Cond.eq (.elem (.field (.string RX4 63) "java/lang/String" "value" "[B") (.int (Int32.ofNat 4))) (.int (([[114, 101, 97, 99, 104]].getD 0 []).getD 4 0))).before #[Value.ref b] s = true := hs _ (by decide +kernel)
  have hex : (Cond.exactly (.string RX4 63) "java/lang/String").before #[Value.ref b] s = true := hs _ (by decide +kernel)
  have hco : (Cond.eq (.field (.string RX4 63) "java/lang/String" "coder" "B") (.int 0)).before #[Value.ref b] s = true := hs _ (by decide +kernel)
  have har : (Cond.arrayOf (.field (.string RX4 63) "java/lang/String" "value" "[B") .byte).before #[Value.ref b] s = true := hs _ (by decide +kernel)
  have hle : (Cond.eq (.length (.field (.string RX4 63) "java/lang/String" "value" "[B")) (.int (Int32.ofNat ([5].getD 0 0)))).before #[Value.ref b] s = true := hs _ (by decide +kernel)
  have z0 : ∀ i : Nat, i < 1 → i = 0 := fun i h => by omega
  obtain ⟨adK, adV, h1, h2⟩ := vk_Sof (args := #[Value.ref b]) (s := s) (N := 1) (tm := fun _ => (.string RX4 63)) (len := [5]) (byt := [[114, 101, 97, 99, 104]]) (A := A) (fun i h => by rw [z0 i h]; decide) (fun _ _ => hex) (fun _ _ => hco) (fun _ _ => har) (fun i h => by rw [z0 i h]; exact hle) (fun i h j hj => by
    rw [z0 i h] at hj ⊢
    have hj : j < 5 := hj
    rcases (by omega : j = 0 ∨ j = 1 ∨ j = 2 ∨ j = 3 ∨ j = 4) with q | q | q | q | q
    · rw [q]; exact e0
    · rw [q]; exact e1
    · rw [q]; exact e2
    · rw [q]; exact e3
    · rw [q]; exact e4
    ) (fun i j hi hj hne => absurd ((z0 i hi).trans (z0 j hj).symm) hne) hA
  have h3 := h1.1 0 (by omega)
  exact ⟨adK 0, adV 0, vk_R.of (hts (.stringRef RX4 63 "reach") (List.mem_of_getElem? (i := 1115) (by decide +kernel))) (h2 0 (by omega)), fun j => ([[114, 101, 97, 99, 104]].getD 0 []).getD j 0, h3.1, h3.2.1, h3.2.2.1, h3.2.2.2, (by decide)⟩
set_option maxHeartbeats 4000000 in
set_option maxRecDepth 100000 in
theorem so_10 {s : State} {b : Nat} (hts : ∀ w ∈ lw_tbl, w.before #[Value.ref b] s = true) (hgv : (Jvm.Cond.and given_1 narrow_1).before #[Value.ref b] s = true) {A : Nat → Prop} (hA : ∀ a : Nat, a < s.heap.size → ¬ A a) : ∃ a v : Nat, vk_R RX4 69 "mouth" a s ∧ sO A s s.heap a v 5 [109, 111, 117, 116, 104] := by
  have hs := flat_of_before _ hgv
  have e0 : (Cond.eq (.elem (.field (.string RX4 69) "java/lang/String" "value" "[B") (.int (Int32.ofNat 0))) (.int (([[109, 111, 117, 116, 104]].getD 0 []).getD 0 0))).before #[Value.ref b] s = true := hs _ (by decide +kernel)
  have e1 : (Cond.eq (.elem (.field (.string RX4 69) "java/lang/String" "value" "[B") (.int (Int32.ofNat 1))) (.int (([[109, 111, 117, 116, 104]].getD 0 []).getD 1 0))).before #[Value.ref b] s = true := hs _ (by decide +kernel)
  have e2 : (Cond.eq (.elem (.field (.string RX4 69) "java/lang/String" "value" "[B") (.int (Int32.ofNat 2))) (.int (([[109, 111, 117, 116, 104]].getD 0 []).getD 2 0))).before #[Value.ref b] s = true := hs _ (by decide +kernel)
  have e3 : (Cond.eq (.elem (.field (.string RX4 69) "java/lang/String" "value" "[B") (.int (Int32.ofNat 3))) (.int (([[109, 111, 117, 116, 104]].getD 0 []).getD 3 0))).before #[Value.ref b] s = true := hs _ (by decide +kernel)
  have e4 : (Cond.eq (.elem (.field (.string RX4 69) "java/lang/String" "value" "[B") (.int (Int32.ofNat 4))) (.int (([[109, 111, 117, 116, 104]].getD 0 []).getD 4 0))).before #[Value.ref b] s = true := hs _ (by decide +kernel)
  have hex : (Cond.exactly (.string RX4 69) "java/lang/String").before #[Value.ref b] s = true := hs _ (by decide +kernel)
  have hco : (Cond.eq (.field (.string RX4 69) "java/lang/String" "coder" "B") (.int 0)).before #[Value.ref b] s = true := hs _ (by decide +kernel)
  have har : (Cond.arrayOf (.field (.string RX4 69) "java/lang/String" "value" "[B") .byte).before #[Value.ref b] s = true := hs _ (by decide +kernel)
  have hle : (Cond.eq (.length (.field (.string RX4 69) "java/lang/String" "value" "[B")) (.int (Int32.ofNat ([5].getD 0 0)))).before #[Value.ref b] s = true := hs _ (by decide +kernel)
  have z0 : ∀ i : Nat, i < 1 → i = 0 := fun i h => by omega
  obtain ⟨adK, adV, h1, h2⟩ := vk_Sof (args := #[Value.ref b]) (s := s) (N := 1) (tm := fun _ => (.string RX4 69)) (len := [5]) (byt := [[109, 111, 117, 116, 104]]) (A := A) (fun i h => by rw [z0 i h]; decide) (fun _ _ => hex) (fun _ _ => hco) (fun _ _ => har) (fun i h => by rw [z0 i h]; exact hle) (fun i h j hj => by
    rw [z0 i h] at hj ⊢
    have hj : j < 5 := hj
    rcases (by omega : j = 0 ∨ j = 1 ∨ j = 2 ∨ j = 3 ∨ j = 4) with q | q | q | q | q
    · rw [q]; exact e0
    · rw [q]; exact e1
    · rw [q]; exact e2
    · rw [q]; exact e3
    · rw [q]; exact e4
    ) (fun i j hi hj hne => absurd ((z0 i hi).trans (z0 j hj).symm) hne) hA
  have h3 := h1.1 0 (by omega)
  exact ⟨adK 0, adV 0, vk_R.of (hts (.stringRef RX4 69 "mouth") (List.mem_of_getElem? (i := 1130) (by decide +kernel))) (h2 0 (by omega)), fun j => ([[109, 111, 117, 116, 104]].getD 0 []).getD j 0, h3.1, h3.2.1, h3.2.2.1, h3.2.2.2, (by decide)⟩
set_option maxHeartbeats 4000000 in
set_option maxRecDepth 100000 in
theorem so_11 {s : State} {b : Nat} (hts : ∀ w ∈ lw_tbl, w.before #[Value.ref b] s = true) (hgv : (Jvm.Cond.and given_1 narrow_1).before #[Value.ref b] s = true) {A : Nat → Prop} (hA : ∀ a : Nat, a < s.heap.size → ¬ A a) : ∃ a v : Nat, vk_R RX4 80 "sink" a s ∧ sO A s s.heap a v 4 [115, 105, 110, 107] := by
  have hs := flat_of_before _ hgv
  have e0 : (Cond.eq (.elem (.field (.string RX4 80) "java/lang/String" "value" "[B") (.int (Int32.ofNat 0))) (.int (([[115, 105, 110, 107]].getD 0 []).getD 0 0))).before #[Value.ref b] s = true := hs _ (by decide +kernel)
  have e1 : (Cond.eq (.elem (.field (.string RX4 80) "java/lang/String" "value" "[B") (.int (Int32.ofNat 1))) (.int (([[115, 105, 110, 107]].getD 0 []).getD 1 0))).before #[Value.ref b] s = true := hs _ (by decide +kernel)
  have e2 : (Cond.eq (.elem (.field (.string RX4 80) "java/lang/String" "value" "[B") (.int (Int32.ofNat 2))) (.int (([[115, 105, 110, 107]].getD 0 []).getD 2 0))).before #[Value.ref b] s = true := hs _ (by decide +kernel)
  have e3 : (Cond.eq (.elem (.field (.string RX4 80) "java/lang/String" "value" "[B") (.int (Int32.ofNat 3))) (.int (([[115, 105, 110, 107]].getD 0 []).getD 3 0))).before #[Value.ref b] s = true := hs _ (by decide +kernel)
  have hex : (Cond.exactly (.string RX4 80) "java/lang/String").before #[Value.ref b] s = true := hs _ (by decide +kernel)
  have hco : (Cond.eq (.field (.string RX4 80) "java/lang/String" "coder" "B") (.int 0)).before #[Value.ref b] s = true := hs _ (by decide +kernel)
  have har : (Cond.arrayOf (.field (.string RX4 80) "java/lang/String" "value" "[B") .byte).before #[Value.ref b] s = true := hs _ (by decide +kernel)
  have hle : (Cond.eq (.length (.field (.string RX4 80) "java/lang/String" "value" "[B")) (.int (Int32.ofNat ([4].getD 0 0)))).before #[Value.ref b] s = true := hs _ (by decide +kernel)
  have z0 : ∀ i : Nat, i < 1 → i = 0 := fun i h => by omega
  obtain ⟨adK, adV, h1, h2⟩ := vk_Sof (args := #[Value.ref b]) (s := s) (N := 1) (tm := fun _ => (.string RX4 80)) (len := [4]) (byt := [[115, 105, 110, 107]]) (A := A) (fun i h => by rw [z0 i h]; decide) (fun _ _ => hex) (fun _ _ => hco) (fun _ _ => har) (fun i h => by rw [z0 i h]; exact hle) (fun i h j hj => by
    rw [z0 i h] at hj ⊢
    have hj : j < 4 := hj
    rcases (by omega : j = 0 ∨ j = 1 ∨ j = 2 ∨ j = 3) with q | q | q | q
    · rw [q]; exact e0
    · rw [q]; exact e1
    · rw [q]; exact e2
    · rw [q]; exact e3
    ) (fun i j hi hj hne => absurd ((z0 i hi).trans (z0 j hj).symm) hne) hA
  have h3 := h1.1 0 (by omega)
  exact ⟨adK 0, adV 0, vk_R.of (hts (.stringRef RX4 80 "sink") (List.mem_of_getElem? (i := 1140) (by decide +kernel))) (h2 0 (by omega)), fun j => ([[115, 105, 110, 107]].getD 0 []).getD j 0, h3.1, h3.2.1, h3.2.2.1, h3.2.2.2, (by decide)⟩
set_option maxHeartbeats 4000000 in
set_option maxRecDepth 100000 in
theorem so_12 {s : State} {b : Nat} (hts : ∀ w ∈ lw_tbl, w.before #[Value.ref b] s = true) (hgv : (Jvm.Cond.and given_1 narrow_1).before #[Value.ref b] s = true) {A : Nat → Prop} (hA : ∀ a : Nat, a < s.heap.size → ¬ A a) : ∃ a v : Nat, vk_R RX4 81 "right" a s ∧ sO A s s.heap a v 5 [114, 105, 103, 104, 116] := by
  have hs := flat_of_before _ hgv
  have e0 : (Cond.eq (.elem (.field (.string RX4 81) "java/lang/String" "value" "[B") (.int (Int32.ofNat 0))) (.int (([[114, 105, 103, 104, 116]].getD 0 []).getD 0 0))).before #[Value.ref b] s = true := hs _ (by decide +kernel)
  have e1 : (Cond.eq (.elem (.field (.string RX4 81) "java/lang/String" "value" "[B") (.int (Int32.ofNat 1))) (.int (([[114, 105, 103, 104, 116]].getD 0 []).getD 1 0))).before #[Value.ref b] s = true := hs _ (by decide +kernel)
  have e2 : (Cond.eq (.elem (.field (.string RX4 81) "java/lang/String" "value" "[B") (.int (Int32.ofNat 2))) (.int (([[114, 105, 103, 104, 116]].getD 0 []).getD 2 0))).before #[Value.ref b] s = true := hs _ (by decide +kernel)
  have e3 : (Cond.eq (.elem (.field (.string RX4 81) "java/lang/String" "value" "[B") (.int (Int32.ofNat 3))) (.int (([[114, 105, 103, 104, 116]].getD 0 []).getD 3 0))).before #[Value.ref b] s = true := hs _ (by decide +kernel)
  have e4 : (Cond.eq (.elem (.field (.string RX4 81) "java/lang/String" "value" "[B") (.int (Int32.ofNat 4))) (.int (([[114, 105, 103, 104, 116]].getD 0 []).getD 4 0))).before #[Value.ref b] s = true := hs _ (by decide +kernel)
  have hex : (Cond.exactly (.string RX4 81) "java/lang/String").before #[Value.ref b] s = true := hs _ (by decide +kernel)
  have hco : (Cond.eq (.field (.string RX4 81) "java/lang/String" "coder" "B") (.int 0)).before #[Value.ref b] s = true := hs _ (by decide +kernel)
  have har : (Cond.arrayOf (.field (.string RX4 81) "java/lang/String" "value" "[B") .byte).before #[Value.ref b] s = true := hs _ (by decide +kernel)
  have hle : (Cond.eq (.length (.field (.string RX4 81) "java/lang/String" "value" "[B")) (.int (Int32.ofNat ([5].getD 0 0)))).before #[Value.ref b] s = true := hs _ (by decide +kernel)
  have z0 : ∀ i : Nat, i < 1 → i = 0 := fun i h => by omega
  obtain ⟨adK, adV, h1, h2⟩ := vk_Sof (args := #[Value.ref b]) (s := s) (N := 1) (tm := fun _ => (.string RX4 81)) (len := [5]) (byt := [[114, 105, 103, 104, 116]]) (A := A) (fun i h => by rw [z0 i h]; decide) (fun _ _ => hex) (fun _ _ => hco) (fun _ _ => har) (fun i h => by rw [z0 i h]; exact hle) (fun i h j hj => by
    rw [z0 i h] at hj ⊢
    have hj : j < 5 := hj
    rcases (by omega : j = 0 ∨ j = 1 ∨ j = 2 ∨ j = 3 ∨ j = 4) with q | q | q | q | q
    · rw [q]; exact e0
    · rw [q]; exact e1
    · rw [q]; exact e2
    · rw [q]; exact e3
    · rw [q]; exact e4
    ) (fun i j hi hj hne => absurd ((z0 i hi).trans (z0 j hj).symm) hne) hA
  have h3 := h1.1 0 (by omega)
  exact ⟨adK 0, adV 0, vk_R.of (hts (.stringRef RX4 81 "right") (List.mem_of_getElem? (i := 1145) (by decide +kernel))) (h2 0 (by omega)), fun j => ([[114, 105, 103, 104, 116]].getD 0 []).getD j 0, h3.1, h3.2.1, h3.2.2.1, h3.2.2.2, (by decide)⟩
set_option maxHeartbeats 4000000 in
set_option maxRecDepth 100000 in
theorem so_13 {s : State} {b : Nat} (hts : ∀ w ∈ lw_tbl, w.before #[Value.ref b] s = true) (hgv : (Jvm.Cond.and given_1 narrow_1).before #[Value.ref b] s = true) {A : Nat → Prop} (hA : ∀ a : Nat, a < s.heap.size → ¬ A a) : ∃ a v : Nat, vk_R RX4 95 "age" a s ∧ sO A s s.heap a v 3 [97, 103, 101] := by
  have hs := flat_of_before _ hgv
  have e0 : (Cond.eq (.elem (.field (.string RX4 95) "java/lang/String" "value" "[B") (.int (Int32.ofNat 0))) (.int (([[97, 103, 101]].getD 0 []).getD 0 0))).before #[Value.ref b] s = true := hs _ (by decide +kernel)
  have e1 : (Cond.eq (.elem (.field (.string RX4 95) "java/lang/String" "value" "[B") (.int (Int32.ofNat 1))) (.int (([[97, 103, 101]].getD 0 []).getD 1 0))).before #[Value.ref b] s = true := hs _ (by decide +kernel)
  have e2 : (Cond.eq (.elem (.field (.string RX4 95) "java/lang/String" "value" "[B") (.int (Int32.ofNat 2))) (.int (([[97, 103, 101]].getD 0 []).getD 2 0))).before #[Value.ref b] s = true := hs _ (by decide +kernel)
  have hex : (Cond.exactly (.string RX4 95) "java/lang/String").before #[Value.ref b] s = true := hs _ (by decide +kernel)
  have hco : (Cond.eq (.field (.string RX4 95) "java/lang/String" "coder" "B") (.int 0)).before #[Value.ref b] s = true := hs _ (by decide +kernel)
  have har : (Cond.arrayOf (.field (.string RX4 95) "java/lang/String" "value" "[B") .byte).before #[Value.ref b] s = true := hs _ (by decide +kernel)
  have hle : (Cond.eq (.length (.field (.string RX4 95) "java/lang/String" "value" "[B")) (.int (Int32.ofNat ([3].getD 0 0)))).before #[Value.ref b] s = true := hs _ (by decide +kernel)
  have z0 : ∀ i : Nat, i < 1 → i = 0 := fun i h => by omega
  obtain ⟨adK, adV, h1, h2⟩ := vk_Sof (args := #[Value.ref b]) (s := s) (N := 1) (tm := fun _ => (.string RX4 95)) (len := [3]) (byt := [[97, 103, 101]]) (A := A) (fun i h => by rw [z0 i h]; decide) (fun _ _ => hex) (fun _ _ => hco) (fun _ _ => har) (fun i h => by rw [z0 i h]; exact hle) (fun i h j hj => by
    rw [z0 i h] at hj ⊢
    have hj : j < 3 := hj
    rcases (by omega : j = 0 ∨ j = 1 ∨ j = 2) with q | q | q
    · rw [q]; exact e0
    · rw [q]; exact e1
    · rw [q]; exact e2
    ) (fun i j hi hj hne => absurd ((z0 i hi).trans (z0 j hj).symm) hne) hA
  have h3 := h1.1 0 (by omega)
  exact ⟨adK 0, adV 0, vk_R.of (hts (.stringRef RX4 95 "age") (List.mem_of_getElem? (i := 1146) (by decide +kernel))) (h2 0 (by omega)), fun j => ([[97, 103, 101]].getD 0 []).getD j 0, h3.1, h3.2.1, h3.2.2.1, h3.2.2.2, (by decide)⟩
set_option maxHeartbeats 4000000 in
set_option maxRecDepth 100000 in
theorem so_14 {s : State} {b : Nat} (hts : ∀ w ∈ lw_tbl, w.before #[Value.ref b] s = true) (hgv : (Jvm.Cond.and given_1 narrow_1).before #[Value.ref b] s = true) {A : Nat → Prop} (hA : ∀ a : Nat, a < s.heap.size → ¬ A a) : ∃ a v : Nat, vk_R RX4 102 "vol" a s ∧ sO A s s.heap a v 3 [118, 111, 108] := by
  have hs := flat_of_before _ hgv
  have e0 : (Cond.eq (.elem (.field (.string RX4 102) "java/lang/String" "value" "[B") (.int (Int32.ofNat 0))) (.int (([[118, 111, 108]].getD 0 []).getD 0 0))).before #[Value.ref b] s = true := hs _ (by decide +kernel)
  have e1 : (Cond.eq (.elem (.field (.string RX4 102) "java/lang/String" "value" "[B") (.int (Int32.ofNat 1))) (.int (([[118, 111, 108]].getD 0 []).getD 1 0))).before #[Value.ref b] s = true := hs _ (by decide +kernel)
  have e2 : (Cond.eq (.elem (.field (.string RX4 102) "java/lang/String" "value" "[B") (.int (Int32.ofNat 2))) (.int (([[118, 111, 108]].getD 0 []).getD 2 0))).before #[Value.ref b] s = true := hs _ (by decide +kernel)
  have hex : (Cond.exactly (.string RX4 102) "java/lang/String").before #[Value.ref b] s = true := hs _ (by decide +kernel)
  have hco : (Cond.eq (.field (.string RX4 102) "java/lang/String" "coder" "B") (.int 0)).before #[Value.ref b] s = true := hs _ (by decide +kernel)
  have har : (Cond.arrayOf (.field (.string RX4 102) "java/lang/String" "value" "[B") .byte).before #[Value.ref b] s = true := hs _ (by decide +kernel)
  have hle : (Cond.eq (.length (.field (.string RX4 102) "java/lang/String" "value" "[B")) (.int (Int32.ofNat ([3].getD 0 0)))).before #[Value.ref b] s = true := hs _ (by decide +kernel)
  have z0 : ∀ i : Nat, i < 1 → i = 0 := fun i h => by omega
  obtain ⟨adK, adV, h1, h2⟩ := vk_Sof (args := #[Value.ref b]) (s := s) (N := 1) (tm := fun _ => (.string RX4 102)) (len := [3]) (byt := [[118, 111, 108]]) (A := A) (fun i h => by rw [z0 i h]; decide) (fun _ _ => hex) (fun _ _ => hco) (fun _ _ => har) (fun i h => by rw [z0 i h]; exact hle) (fun i h j hj => by
    rw [z0 i h] at hj ⊢
    have hj : j < 3 := hj
    rcases (by omega : j = 0 ∨ j = 1 ∨ j = 2) with q | q | q
    · rw [q]; exact e0
    · rw [q]; exact e1
    · rw [q]; exact e2
    ) (fun i j hi hj hne => absurd ((z0 i hi).trans (z0 j hj).symm) hne) hA
  have h3 := h1.1 0 (by omega)
  exact ⟨adK 0, adV 0, vk_R.of (hts (.stringRef RX4 102 "vol") (List.mem_of_getElem? (i := 1147) (by decide +kernel))) (h2 0 (by omega)), fun j => ([[118, 111, 108]].getD 0 []).getD j 0, h3.1, h3.2.1, h3.2.2.1, h3.2.2.2, (by decide)⟩
set_option maxHeartbeats 4000000 in
set_option maxRecDepth 100000 in
theorem so_15 {s : State} {b : Nat} (hts : ∀ w ∈ lw_tbl, w.before #[Value.ref b] s = true) (hgv : (Jvm.Cond.and given_1 narrow_1).before #[Value.ref b] s = true) {A : Nat → Prop} (hA : ∀ a : Nat, a < s.heap.size → ¬ A a) : ∃ a v : Nat, vk_R RX4 107 "back" a s ∧ sO A s s.heap a v 4 [98, 97, 99, 107] := by
  have hs := flat_of_before _ hgv
  have e0 : (Cond.eq (.elem (.field (.string RX4 107) "java/lang/String" "value" "[B") (.int (Int32.ofNat 0))) (.int (([[98, 97, 99, 107]].getD 0 []).getD 0 0))).before #[Value.ref b] s = true := hs _ (by decide +kernel)
  have e1 : (Cond.eq (.elem (.field (.string RX4 107) "java/lang/String" "value" "[B") (.int (Int32.ofNat 1))) (.int (([[98, 97, 99, 107]].getD 0 []).getD 1 0))).before #[Value.ref b] s = true := hs _ (by decide +kernel)
  have e2 : (Cond.eq (.elem (.field (.string RX4 107) "java/lang/String" "value" "[B") (.int (Int32.ofNat 2))) (.int (([[98, 97, 99, 107]].getD 0 []).getD 2 0))).before #[Value.ref b] s = true := hs _ (by decide +kernel)
  have e3 : (Cond.eq (.elem (.field (.string RX4 107) "java/lang/String" "value" "[B") (.int (Int32.ofNat 3))) (.int (([[98, 97, 99, 107]].getD 0 []).getD 3 0))).before #[Value.ref b] s = true := hs _ (by decide +kernel)
  have hex : (Cond.exactly (.string RX4 107) "java/lang/String").before #[Value.ref b] s = true := hs _ (by decide +kernel)
  have hco : (Cond.eq (.field (.string RX4 107) "java/lang/String" "coder" "B") (.int 0)).before #[Value.ref b] s = true := hs _ (by decide +kernel)
  have har : (Cond.arrayOf (.field (.string RX4 107) "java/lang/String" "value" "[B") .byte).before #[Value.ref b] s = true := hs _ (by decide +kernel)
  have hle : (Cond.eq (.length (.field (.string RX4 107) "java/lang/String" "value" "[B")) (.int (Int32.ofNat ([4].getD 0 0)))).before #[Value.ref b] s = true := hs _ (by decide +kernel)
  have z0 : ∀ i : Nat, i < 1 → i = 0 := fun i h => by omega
  obtain ⟨adK, adV, h1, h2⟩ := vk_Sof (args := #[Value.ref b]) (s := s) (N := 1) (tm := fun _ => (.string RX4 107)) (len := [4]) (byt := [[98, 97, 99, 107]]) (A := A) (fun i h => by rw [z0 i h]; decide) (fun _ _ => hex) (fun _ _ => hco) (fun _ _ => har) (fun i h => by rw [z0 i h]; exact hle) (fun i h j hj => by
    rw [z0 i h] at hj ⊢
    have hj : j < 4 := hj
    rcases (by omega : j = 0 ∨ j = 1 ∨ j = 2 ∨ j = 3) with q | q | q | q
    · rw [q]; exact e0
    · rw [q]; exact e1
    · rw [q]; exact e2
    · rw [q]; exact e3
    ) (fun i j hi hj hne => absurd ((z0 i hi).trans (z0 j hj).symm) hne) hA
  have h3 := h1.1 0 (by omega)
  exact ⟨adK 0, adV 0, vk_R.of (hts (.stringRef RX4 107 "back") (List.mem_of_getElem? (i := 1148) (by decide +kernel))) (h2 0 (by omega)), fun j => ([[98, 97, 99, 107]].getD 0 []).getD j 0, h3.1, h3.2.1, h3.2.2.1, h3.2.2.2, (by decide)⟩
set_option maxHeartbeats 4000000 in
set_option maxRecDepth 100000 in
theorem so_16 {s : State} {b : Nat} (hts : ∀ w ∈ lw_tbl, w.before #[Value.ref b] s = true) (hgv : (Jvm.Cond.and given_1 narrow_1).before #[Value.ref b] s = true) {A : Nat → Prop} (hA : ∀ a : Nat, a < s.heap.size → ¬ A a) : ∃ a v : Nat, vk_R RX4 115 "store" a s ∧ sO A s s.heap a v 5 [115, 116, 111, 114, 101] := by
  have hs := flat_of_before _ hgv
  have e0 : (Cond.eq (.elem (.field (.string RX4 115) "java/lang/String" "value" "[B") (.int (Int32.ofNat 0))) (.int (([[115, 116, 111, 114, 101]].getD 0 []).getD 0 0))).before #[Value.ref b] s = true := hs _ (by decide +kernel)
  have e1 : (Cond.eq (.elem (.field (.string RX4 115) "java/lang/String" "value" "[B") (.int (Int32.ofNat 1))) (.int (([[115, 116, 111, 114, 101]].getD 0 []).getD 1 0))).before #[Value.ref b] s = true := hs _ (by decide +kernel)
  have e2 : (Cond.eq (.elem (.field (.string RX4 115) "java/lang/String" "value" "[B") (.int (Int32.ofNat 2))) (.int (([[115, 116, 111, 114, 101]].getD 0 []).getD 2 0))).before #[Value.ref b] s = true := hs _ (by decide +kernel)
  have e3 : (Cond.eq (.elem (.field (.string RX4 115) "java/lang/String" "value" "[B") (.int (Int32.ofNat 3))) (.int (([[115, 116, 111, 114, 101]].getD 0 []).getD 3 0))).before #[Value.ref b] s = true := hs _ (by decide +kernel)
  have e4 : (Cond.eq (.elem (.field (.string RX4 115) "java/lang/String" "value" "[B") (.int (Int32.ofNat 4))) (.int (([[115, 116, 111, 114, 101]].getD 0 []).getD 4 0))).before #[Value.ref b] s = true := hs _ (by decide +kernel)
  have hex : (Cond.exactly (.string RX4 115) "java/lang/String").before #[Value.ref b] s = true := hs _ (by decide +kernel)
  have hco : (Cond.eq (.field (.string RX4 115) "java/lang/String" "coder" "B") (.int 0)).before #[Value.ref b] s = true := hs _ (by decide +kernel)
  have har : (Cond.arrayOf (.field (.string RX4 115) "java/lang/String" "value" "[B") .byte).before #[Value.ref b] s = true := hs _ (by decide +kernel)
  have hle : (Cond.eq (.length (.field (.string RX4 115) "java/lang/String" "value" "[B")) (.int (Int32.ofNat ([5].getD 0 0)))).before #[Value.ref b] s = true := hs _ (by decide +kernel)
  have z0 : ∀ i : Nat, i < 1 → i = 0 := fun i h => by omega
  obtain ⟨adK, adV, h1, h2⟩ := vk_Sof (args := #[Value.ref b]) (s := s) (N := 1) (tm := fun _ => (.string RX4 115)) (len := [5]) (byt := [[115, 116, 111, 114, 101]]) (A := A) (fun i h => by rw [z0 i h]; decide) (fun _ _ => hex) (fun _ _ => hco) (fun _ _ => har) (fun i h => by rw [z0 i h]; exact hle) (fun i h j hj => by
    rw [z0 i h] at hj ⊢
    have hj : j < 5 := hj
    rcases (by omega : j = 0 ∨ j = 1 ∨ j = 2 ∨ j = 3 ∨ j = 4) with q | q | q | q | q
    · rw [q]; exact e0
    · rw [q]; exact e1
    · rw [q]; exact e2
    · rw [q]; exact e3
    · rw [q]; exact e4
    ) (fun i j hi hj hne => absurd ((z0 i hi).trans (z0 j hj).symm) hne) hA
  have h3 := h1.1 0 (by omega)
  exact ⟨adK 0, adV 0, vk_R.of (hts (.stringRef RX4 115 "store") (List.mem_of_getElem? (i := 1153) (by decide +kernel))) (h2 0 (by omega)), fun j => ([[115, 116, 111, 114, 101]].getD 0 []).getD j 0, h3.1, h3.2.1, h3.2.2.1, h3.2.2.2, (by decide)⟩
set_option maxHeartbeats 4000000 in
set_option maxRecDepth 100000 in
theorem so_17 {s : State} {b : Nat} (hts : ∀ w ∈ lw_tbl, w.before #[Value.ref b] s = true) (hgv : (Jvm.Cond.and given_1 narrow_1).before #[Value.ref b] s = true) {A : Nat → Prop} (hA : ∀ a : Nat, a < s.heap.size → ¬ A a) : ∃ a v : Nat, vk_R RX4 55 "wet" a s ∧ sO A s s.heap a v 3 [119, 101, 116] := by
  have hs := flat_of_before _ hgv
  have e0 : (Cond.eq (.elem (.field (.string RX4 55) "java/lang/String" "value" "[B") (.int (Int32.ofNat 0))) (.int (([[119, 101, 116]].getD 0 []).getD 0 0))).before #[Value.ref b] s = true := hs _ (by decide +kernel)
  have e1 : (Cond.eq (.elem (.field (.string RX4 55) "java/lang/String" "value" "[B") (.int (Int32.ofNat 1))) (.int (([[119, 101, 116]].getD 0 []).getD 1 0))).before #[Value.ref b] s = true := hs _ (by decide +kernel)
  have e2 : (Cond.eq (.elem (.field (.string RX4 55) "java/lang/String" "value" "[B") (.int (Int32.ofNat 2))) (.int (([[119, 101, 116]].getD 0 []).getD 2 0))).before #[Value.ref b] s = true := hs _ (by decide +kernel)
  have hex : (Cond.exactly (.string RX4 55) "java/lang/String").before #[Value.ref b] s = true := hs _ (by decide +kernel)
  have hco : (Cond.eq (.field (.string RX4 55) "java/lang/String" "coder" "B") (.int 0)).before #[Value.ref b] s = true := hs _ (by decide +kernel)
  have har : (Cond.arrayOf (.field (.string RX4 55) "java/lang/String" "value" "[B") .byte).before #[Value.ref b] s = true := hs _ (by decide +kernel)
  have hle : (Cond.eq (.length (.field (.string RX4 55) "java/lang/String" "value" "[B")) (.int (Int32.ofNat ([3].getD 0 0)))).before #[Value.ref b] s = true := hs _ (by decide +kernel)
  have z0 : ∀ i : Nat, i < 1 → i = 0 := fun i h => by omega
  obtain ⟨adK, adV, h1, h2⟩ := vk_Sof (args := #[Value.ref b]) (s := s) (N := 1) (tm := fun _ => (.string RX4 55)) (len := [3]) (byt := [[119, 101, 116]]) (A := A) (fun i h => by rw [z0 i h]; decide) (fun _ _ => hex) (fun _ _ => hco) (fun _ _ => har) (fun i h => by rw [z0 i h]; exact hle) (fun i h j hj => by
    rw [z0 i h] at hj ⊢
    have hj : j < 3 := hj
    rcases (by omega : j = 0 ∨ j = 1 ∨ j = 2) with q | q | q
    · rw [q]; exact e0
    · rw [q]; exact e1
    · rw [q]; exact e2
    ) (fun i j hi hj hne => absurd ((z0 i hi).trans (z0 j hj).symm) hne) hA
  have h3 := h1.1 0 (by omega)
  exact ⟨adK 0, adV 0, vk_R.of (hts (.stringRef RX4 55 "wet") (List.mem_of_getElem? (i := 1154) (by decide +kernel))) (h2 0 (by omega)), fun j => ([[119, 101, 116]].getD 0 []).getD j 0, h3.1, h3.2.1, h3.2.2.1, h3.2.2.2, (by decide)⟩
set_option maxHeartbeats 4000000 in
set_option maxRecDepth 100000 in
theorem so_18 {s : State} {b : Nat} (hts : ∀ w ∈ lw_tbl, w.before #[Value.ref b] s = true) (hgv : (Jvm.Cond.and given_1 narrow_1).before #[Value.ref b] s = true) {A : Nat → Prop} (hA : ∀ a : Nat, a < s.heap.size → ¬ A a) : ∃ a v : Nat, vk_R RX7 370 "reach" a s ∧ sO A s s.heap a v 5 [114, 101, 97, 99, 104] := by
  have hs := flat_of_before _ hgv
  have e0 : (Cond.eq (.elem (.field (.string RX7 370) "java/lang/String" "value" "[B") (.int (Int32.ofNat 0))) (.int (([[114, 101, 97, 99, 104]].getD 0 []).getD 0 0))).before #[Value.ref b] s = true := hs _ (by decide +kernel)
  have e1 : (Cond.eq (.elem (.field (.string RX7 370) "java/lang/String" "value" "[B") (.int (Int32.ofNat 1))) (.int (([[114, 101, 97, 99, 104]].getD 0 []).getD 1 0))).before #[Value.ref b] s = true := hs _ (by decide +kernel)
  have e2 : (Cond.eq (.elem (.field (.string RX7 370) "java/lang/String" "value" "[B") (.int (Int32.ofNat 2))) (.int (([[114, 101, 97, 99, 104]].getD 0 []).getD 2 0))).before #[Value.ref b] s = true := hs _ (by decide +kernel)
  have e3 : (Cond.eq (.elem (.field (.string RX7 370) "java/lang/String" "value" "[B") (.int (Int32.ofNat 3))) (.int (([[114, 101, 97, 99, 104]].getD 0 []).getD 3 0))).before #[Value.ref b] s = true := hs _ (by decide +kernel)
  have e4 : (Cond.eq (.elem (.field (.string RX7 370) "java/lang/String" "value" "[B") (.int (Int32.ofNat 4))) (.int (([[114, 101, 97, 99, 104]].getD 0 []).getD 4 0))).before #[Value.ref b] s = true := hs _ (by decide +kernel)
  have hex : (Cond.exactly (.string RX7 370) "java/lang/String").before #[Value.ref b] s = true := hs _ (by decide +kernel)
  have hco : (Cond.eq (.field (.string RX7 370) "java/lang/String" "coder" "B") (.int 0)).before #[Value.ref b] s = true := hs _ (by decide +kernel)
  have har : (Cond.arrayOf (.field (.string RX7 370) "java/lang/String" "value" "[B") .byte).before #[Value.ref b] s = true := hs _ (by decide +kernel)
  have hle : (Cond.eq (.length (.field (.string RX7 370) "java/lang/String" "value" "[B")) (.int (Int32.ofNat ([5].getD 0 0)))).before #[Value.ref b] s = true := hs _ (by decide +kernel)
  have z0 : ∀ i : Nat, i < 1 → i = 0 := fun i h => by omega
  obtain ⟨adK, adV, h1, h2⟩ := vk_Sof (args := #[Value.ref b]) (s := s) (N := 1) (tm := fun _ => (.string RX7 370)) (len := [5]) (byt := [[114, 101, 97, 99, 104]]) (A := A) (fun i h => by rw [z0 i h]; decide) (fun _ _ => hex) (fun _ _ => hco) (fun _ _ => har) (fun i h => by rw [z0 i h]; exact hle) (fun i h j hj => by
    rw [z0 i h] at hj ⊢
    have hj : j < 5 := hj
    rcases (by omega : j = 0 ∨ j = 1 ∨ j = 2 ∨ j = 3 ∨ j = 4) with q | q | q | q | q
    · rw [q]; exact e0
    · rw [q]; exact e1
    · rw [q]; exact e2
    · rw [q]; exact e3
    · rw [q]; exact e4
    ) (fun i j hi hj hne => absurd ((z0 i hi).trans (z0 j hj).symm) hne) hA
  have h3 := h1.1 0 (by omega)
  exact ⟨adK 0, adV 0, vk_R.of (hts (.stringRef RX7 370 "reach") (List.mem_of_getElem? (i := 1723) (by decide +kernel))) (h2 0 (by omega)), fun j => ([[114, 101, 97, 99, 104]].getD 0 []).getD j 0, h3.1, h3.2.1, h3.2.2.1, h3.2.2.2, (by decide)⟩
set_option maxHeartbeats 4000000 in
set_option maxRecDepth 100000 in
theorem so_19 {s : State} {b : Nat} (hts : ∀ w ∈ lw_tbl, w.before #[Value.ref b] s = true) (hgv : (Jvm.Cond.and given_1 narrow_1).before #[Value.ref b] s = true) {A : Nat → Prop} (hA : ∀ a : Nat, a < s.heap.size → ¬ A a) : ∃ a v : Nat, vk_R RX7 376 "mouth" a s ∧ sO A s s.heap a v 5 [109, 111, 117, 116, 104] := by
  have hs := flat_of_before _ hgv
  have e0 : (Cond.eq (.elem (.field (.string RX7 376) "java/lang/String" "value" "[B") (.int (Int32.ofNat 0))) (.int (([[109, 111, 117, 116, 104]].getD 0 []).getD 0 0))).before #[Value.ref b] s = true := hs _ (by decide +kernel)
  have e1 : (Cond.eq (.elem (.field (.string RX7 376) "java/lang/String" "value" "[B") (.int (Int32.ofNat 1))) (.int (([[109, 111, 117, 116, 104]].getD 0 []).getD 1 0))).before #[Value.ref b] s = true := hs _ (by decide +kernel)
  have e2 : (Cond.eq (.elem (.field (.string RX7 376) "java/lang/String" "value" "[B") (.int (Int32.ofNat 2))) (.int (([[109, 111, 117, 116, 104]].getD 0 []).getD 2 0))).before #[Value.ref b] s = true := hs _ (by decide +kernel)
  have e3 : (Cond.eq (.elem (.field (.string RX7 376) "java/lang/String" "value" "[B") (.int (Int32.ofNat 3))) (.int (([[109, 111, 117, 116, 104]].getD 0 []).getD 3 0))).before #[Value.ref b] s = true := hs _ (by decide +kernel)
  have e4 : (Cond.eq (.elem (.field (.string RX7 376) "java/lang/String" "value" "[B") (.int (Int32.ofNat 4))) (.int (([[109, 111, 117, 116, 104]].getD 0 []).getD 4 0))).before #[Value.ref b] s = true := hs _ (by decide +kernel)
  have hex : (Cond.exactly (.string RX7 376) "java/lang/String").before #[Value.ref b] s = true := hs _ (by decide +kernel)
  have hco : (Cond.eq (.field (.string RX7 376) "java/lang/String" "coder" "B") (.int 0)).before #[Value.ref b] s = true := hs _ (by decide +kernel)
  have har : (Cond.arrayOf (.field (.string RX7 376) "java/lang/String" "value" "[B") .byte).before #[Value.ref b] s = true := hs _ (by decide +kernel)
  have hle : (Cond.eq (.length (.field (.string RX7 376) "java/lang/String" "value" "[B")) (.int (Int32.ofNat ([5].getD 0 0)))).before #[Value.ref b] s = true := hs _ (by decide +kernel)
  have z0 : ∀ i : Nat, i < 1 → i = 0 := fun i h => by omega
  obtain ⟨adK, adV, h1, h2⟩ := vk_Sof (args := #[Value.ref b]) (s := s) (N := 1) (tm := fun _ => (.string RX7 376)) (len := [5]) (byt := [[109, 111, 117, 116, 104]]) (A := A) (fun i h => by rw [z0 i h]; decide) (fun _ _ => hex) (fun _ _ => hco) (fun _ _ => har) (fun i h => by rw [z0 i h]; exact hle) (fun i h j hj => by
    rw [z0 i h] at hj ⊢
    have hj : j < 5 := hj
    rcases (by omega : j = 0 ∨ j = 1 ∨ j = 2 ∨ j = 3 ∨ j = 4) with q | q | q | q | q
    · rw [q]; exact e0
    · rw [q]; exact e1
    · rw [q]; exact e2
    · rw [q]; exact e3
    · rw [q]; exact e4
    ) (fun i j hi hj hne => absurd ((z0 i hi).trans (z0 j hj).symm) hne) hA
  have h3 := h1.1 0 (by omega)
  exact ⟨adK 0, adV 0, vk_R.of (hts (.stringRef RX7 376 "mouth") (List.mem_of_getElem? (i := 1744) (by decide +kernel))) (h2 0 (by omega)), fun j => ([[109, 111, 117, 116, 104]].getD 0 []).getD j 0, h3.1, h3.2.1, h3.2.2.1, h3.2.2.2, (by decide)⟩
set_option maxHeartbeats 4000000 in
set_option maxRecDepth 100000 in
theorem so_20 {s : State} {b : Nat} (hts : ∀ w ∈ lw_tbl, w.before #[Value.ref b] s = true) (hgv : (Jvm.Cond.and given_1 narrow_1).before #[Value.ref b] s = true) {A : Nat → Prop} (hA : ∀ a : Nat, a < s.heap.size → ¬ A a) : ∃ a v : Nat, vk_R RX7 381 "sink" a s ∧ sO A s s.heap a v 4 [115, 105, 110, 107] := by
  have hs := flat_of_before _ hgv
  have e0 : (Cond.eq (.elem (.field (.string RX7 381) "java/lang/String" "value" "[B") (.int (Int32.ofNat 0))) (.int (([[115, 105, 110, 107]].getD 0 []).getD 0 0))).before #[Value.ref b] s = true := hs _ (by decide +kernel)
  have e1 : (Cond.eq (.elem (.field (.string RX7 381) "java/lang/String" "value" "[B") (.int (Int32.ofNat 1))) (.int (([[115, 105, 110, 107]].getD 0 []).getD 1 0))).before #[Value.ref b] s = true := hs _ (by decide +kernel)
  have e2 : (Cond.eq (.elem (.field (.string RX7 381) "java/lang/String" "value" "[B") (.int (Int32.ofNat 2))) (.int (([[115, 105, 110, 107]].getD 0 []).getD 2 0))).before #[Value.ref b] s = true := hs _ (by decide +kernel)
  have e3 : (Cond.eq (.elem (.field (.string RX7 381) "java/lang/String" "value" "[B") (.int (Int32.ofNat 3))) (.int (([[115, 105, 110, 107]].getD 0 []).getD 3 0))).before #[Value.ref b] s = true := hs _ (by decide +kernel)
  have hex : (Cond.exactly (.string RX7 381) "java/lang/String").before #[Value.ref b] s = true := hs _ (by decide +kernel)
  have hco : (Cond.eq (.field (.string RX7 381) "java/lang/String" "coder" "B") (.int 0)).before #[Value.ref b] s = true := hs _ (by decide +kernel)
  have har : (Cond.arrayOf (.field (.string RX7 381) "java/lang/String" "value" "[B") .byte).before #[Value.ref b] s = true := hs _ (by decide +kernel)
  have hle : (Cond.eq (.length (.field (.string RX7 381) "java/lang/String" "value" "[B")) (.int (Int32.ofNat ([4].getD 0 0)))).before #[Value.ref b] s = true := hs _ (by decide +kernel)
  have z0 : ∀ i : Nat, i < 1 → i = 0 := fun i h => by omega
  obtain ⟨adK, adV, h1, h2⟩ := vk_Sof (args := #[Value.ref b]) (s := s) (N := 1) (tm := fun _ => (.string RX7 381)) (len := [4]) (byt := [[115, 105, 110, 107]]) (A := A) (fun i h => by rw [z0 i h]; decide) (fun _ _ => hex) (fun _ _ => hco) (fun _ _ => har) (fun i h => by rw [z0 i h]; exact hle) (fun i h j hj => by
    rw [z0 i h] at hj ⊢
    have hj : j < 4 := hj
    rcases (by omega : j = 0 ∨ j = 1 ∨ j = 2 ∨ j = 3) with q | q | q | q
    · rw [q]; exact e0
    · rw [q]; exact e1
    · rw [q]; exact e2
    · rw [q]; exact e3
    ) (fun i j hi hj hne => absurd ((z0 i hi).trans (z0 j hj).symm) hne) hA
  have h3 := h1.1 0 (by omega)
  exact ⟨adK 0, adV 0, vk_R.of (hts (.stringRef RX7 381 "sink") (List.mem_of_getElem? (i := 1764) (by decide +kernel))) (h2 0 (by omega)), fun j => ([[115, 105, 110, 107]].getD 0 []).getD j 0, h3.1, h3.2.1, h3.2.2.1, h3.2.2.2, (by decide)⟩
set_option maxHeartbeats 4000000 in
set_option maxRecDepth 100000 in
theorem so_21 {s : State} {b : Nat} (hts : ∀ w ∈ lw_tbl, w.before #[Value.ref b] s = true) (hgv : (Jvm.Cond.and given_1 narrow_1).before #[Value.ref b] s = true) {A : Nat → Prop} (hA : ∀ a : Nat, a < s.heap.size → ¬ A a) : ∃ a v : Nat, vk_R RX7 390 "right" a s ∧ sO A s s.heap a v 5 [114, 105, 103, 104, 116] := by
  have hs := flat_of_before _ hgv
  have e0 : (Cond.eq (.elem (.field (.string RX7 390) "java/lang/String" "value" "[B") (.int (Int32.ofNat 0))) (.int (([[114, 105, 103, 104, 116]].getD 0 []).getD 0 0))).before #[Value.ref b] s = true := hs _ (by decide +kernel)
  have e1 : (Cond.eq (.elem (.field (.string RX7 390) "java/lang/String" "value" "[B") (.int (Int32.ofNat 1))) (.int (([[114, 105, 103, 104, 116]].getD 0 []).getD 1 0))).before #[Value.ref b] s = true := hs _ (by decide +kernel)
  have e2 : (Cond.eq (.elem (.field (.string RX7 390) "java/lang/String" "value" "[B") (.int (Int32.ofNat 2))) (.int (([[114, 105, 103, 104, 116]].getD 0 []).getD 2 0))).before #[Value.ref b] s = true := hs _ (by decide +kernel)
  have e3 : (Cond.eq (.elem (.field (.string RX7 390) "java/lang/String" "value" "[B") (.int (Int32.ofNat 3))) (.int (([[114, 105, 103, 104, 116]].getD 0 []).getD 3 0))).before #[Value.ref b] s = true := hs _ (by decide +kernel)
  have e4 : (Cond.eq (.elem (.field (.string RX7 390) "java/lang/String" "value" "[B") (.int (Int32.ofNat 4))) (.int (([[114, 105, 103, 104, 116]].getD 0 []).getD 4 0))).before #[Value.ref b] s = true := hs _ (by decide +kernel)
  have hex : (Cond.exactly (.string RX7 390) "java/lang/String").before #[Value.ref b] s = true := hs _ (by decide +kernel)
  have hco : (Cond.eq (.field (.string RX7 390) "java/lang/String" "coder" "B") (.int 0)).before #[Value.ref b] s = true := hs _ (by decide +kernel)
  have har : (Cond.arrayOf (.field (.string RX7 390) "java/lang/String" "value" "[B") .byte).before #[Value.ref b] s = true := hs _ (by decide +kernel)
  have hle : (Cond.eq (.length (.field (.string RX7 390) "java/lang/String" "value" "[B")) (.int (Int32.ofNat ([5].getD 0 0)))).before #[Value.ref b] s = true := hs _ (by decide +kernel)
  have z0 : ∀ i : Nat, i < 1 → i = 0 := fun i h => by omega
  obtain ⟨adK, adV, h1, h2⟩ := vk_Sof (args := #[Value.ref b]) (s := s) (N := 1) (tm := fun _ => (.string RX7 390)) (len := [5]) (byt := [[114, 105, 103, 104, 116]]) (A := A) (fun i h => by rw [z0 i h]; decide) (fun _ _ => hex) (fun _ _ => hco) (fun _ _ => har) (fun i h => by rw [z0 i h]; exact hle) (fun i h j hj => by
    rw [z0 i h] at hj ⊢
    have hj : j < 5 := hj
    rcases (by omega : j = 0 ∨ j = 1 ∨ j = 2 ∨ j = 3 ∨ j = 4) with q | q | q | q | q
    · rw [q]; exact e0
    · rw [q]; exact e1
    · rw [q]; exact e2
    · rw [q]; exact e3
    · rw [q]; exact e4
    ) (fun i j hi hj hne => absurd ((z0 i hi).trans (z0 j hj).symm) hne) hA
  have h3 := h1.1 0 (by omega)
  exact ⟨adK 0, adV 0, vk_R.of (hts (.stringRef RX7 390 "right") (List.mem_of_getElem? (i := 1765) (by decide +kernel))) (h2 0 (by omega)), fun j => ([[114, 105, 103, 104, 116]].getD 0 []).getD j 0, h3.1, h3.2.1, h3.2.2.1, h3.2.2.2, (by decide)⟩
set_option maxHeartbeats 4000000 in
set_option maxRecDepth 100000 in
theorem so_22 {s : State} {b : Nat} (hts : ∀ w ∈ lw_tbl, w.before #[Value.ref b] s = true) (hgv : (Jvm.Cond.and given_1 narrow_1).before #[Value.ref b] s = true) {A : Nat → Prop} (hA : ∀ a : Nat, a < s.heap.size → ¬ A a) : ∃ a v : Nat, vk_R RX7 383 "age" a s ∧ sO A s s.heap a v 3 [97, 103, 101] := by
  have hs := flat_of_before _ hgv
  have e0 : (Cond.eq (.elem (.field (.string RX7 383) "java/lang/String" "value" "[B") (.int (Int32.ofNat 0))) (.int (([[97, 103, 101]].getD 0 []).getD 0 0))).before #[Value.ref b] s = true := hs _ (by decide +kernel)
  have e1 : (Cond.eq (.elem (.field (.string RX7 383) "java/lang/String" "value" "[B") (.int (Int32.ofNat 1))) (.int (([[97, 103, 101]].getD 0 []).getD 1 0))).before #[Value.ref b] s = true := hs _ (by decide +kernel)
  have e2 : (Cond.eq (.elem (.field (.string RX7 383) "java/lang/String" "value" "[B") (.int (Int32.ofNat 2))) (.int (([[97, 103, 101]].getD 0 []).getD 2 0))).before #[Value.ref b] s = true := hs _ (by decide +kernel)
  have hex : (Cond.exactly (.string RX7 383) "java/lang/String").before #[Value.ref b] s = true := hs _ (by decide +kernel)
  have hco : (Cond.eq (.field (.string RX7 383) "java/lang/String" "coder" "B") (.int 0)).before #[Value.ref b] s = true := hs _ (by decide +kernel)
  have har : (Cond.arrayOf (.field (.string RX7 383) "java/lang/String" "value" "[B") .byte).before #[Value.ref b] s = true := hs _ (by decide +kernel)
  have hle : (Cond.eq (.length (.field (.string RX7 383) "java/lang/String" "value" "[B")) (.int (Int32.ofNat ([3].getD 0 0)))).before #[Value.ref b] s = true := hs _ (by decide +kernel)
  have z0 : ∀ i : Nat, i < 1 → i = 0 := fun i h => by omega
  obtain ⟨adK, adV, h1, h2⟩ := vk_Sof (args := #[Value.ref b]) (s := s) (N := 1) (tm := fun _ => (.string RX7 383)) (len := [3]) (byt := [[97, 103, 101]]) (A := A) (fun i h => by rw [z0 i h]; decide) (fun _ _ => hex) (fun _ _ => hco) (fun _ _ => har) (fun i h => by rw [z0 i h]; exact hle) (fun i h j hj => by
    rw [z0 i h] at hj ⊢
    have hj : j < 3 := hj
    rcases (by omega : j = 0 ∨ j = 1 ∨ j = 2) with q | q | q
    · rw [q]; exact e0
    · rw [q]; exact e1
    · rw [q]; exact e2
    ) (fun i j hi hj hne => absurd ((z0 i hi).trans (z0 j hj).symm) hne) hA
  have h3 := h1.1 0 (by omega)
  exact ⟨adK 0, adV 0, vk_R.of (hts (.stringRef RX7 383 "age") (List.mem_of_getElem? (i := 1774) (by decide +kernel))) (h2 0 (by omega)), fun j => ([[97, 103, 101]].getD 0 []).getD j 0, h3.1, h3.2.1, h3.2.2.1, h3.2.2.2, (by decide)⟩
set_option maxHeartbeats 4000000 in
set_option maxRecDepth 100000 in
theorem so_23 {s : State} {b : Nat} (hts : ∀ w ∈ lw_tbl, w.before #[Value.ref b] s = true) (hgv : (Jvm.Cond.and given_1 narrow_1).before #[Value.ref b] s = true) {A : Nat → Prop} (hA : ∀ a : Nat, a < s.heap.size → ¬ A a) : ∃ a v : Nat, vk_R RX7 395 "vol" a s ∧ sO A s s.heap a v 3 [118, 111, 108] := by
  have hs := flat_of_before _ hgv
  have e0 : (Cond.eq (.elem (.field (.string RX7 395) "java/lang/String" "value" "[B") (.int (Int32.ofNat 0))) (.int (([[118, 111, 108]].getD 0 []).getD 0 0))).before #[Value.ref b] s = true := hs _ (by decide +kernel)
  have e1 : (Cond.eq (.elem (.field (.string RX7 395) "java/lang/String" "value" "[B") (.int (Int32.ofNat 1))) (.int (([[118, 111, 108]].getD 0 []).getD 1 0))).before #[Value.ref b] s = true := hs _ (by decide +kernel)
  have e2 : (Cond.eq (.elem (.field (.string RX7 395) "java/lang/String" "value" "[B") (.int (Int32.ofNat 2))) (.int (([[118, 111, 108]].getD 0 []).getD 2 0))).before #[Value.ref b] s = true := hs _ (by decide +kernel)
  have hex : (Cond.exactly (.string RX7 395) "java/lang/String").before #[Value.ref b] s = true := hs _ (by decide +kernel)
  have hco : (Cond.eq (.field (.string RX7 395) "java/lang/String" "coder" "B") (.int 0)).before #[Value.ref b] s = true := hs _ (by decide +kernel)
  have har : (Cond.arrayOf (.field (.string RX7 395) "java/lang/String" "value" "[B") .byte).before #[Value.ref b] s = true := hs _ (by decide +kernel)
  have hle : (Cond.eq (.length (.field (.string RX7 395) "java/lang/String" "value" "[B")) (.int (Int32.ofNat ([3].getD 0 0)))).before #[Value.ref b] s = true := hs _ (by decide +kernel)
  have z0 : ∀ i : Nat, i < 1 → i = 0 := fun i h => by omega
  obtain ⟨adK, adV, h1, h2⟩ := vk_Sof (args := #[Value.ref b]) (s := s) (N := 1) (tm := fun _ => (.string RX7 395)) (len := [3]) (byt := [[118, 111, 108]]) (A := A) (fun i h => by rw [z0 i h]; decide) (fun _ _ => hex) (fun _ _ => hco) (fun _ _ => har) (fun i h => by rw [z0 i h]; exact hle) (fun i h j hj => by
    rw [z0 i h] at hj ⊢
    have hj : j < 3 := hj
    rcases (by omega : j = 0 ∨ j = 1 ∨ j = 2) with q | q | q
    · rw [q]; exact e0
    · rw [q]; exact e1
    · rw [q]; exact e2
    ) (fun i j hi hj hne => absurd ((z0 i hi).trans (z0 j hj).symm) hne) hA
  have h3 := h1.1 0 (by omega)
  exact ⟨adK 0, adV 0, vk_R.of (hts (.stringRef RX7 395 "vol") (List.mem_of_getElem? (i := 1779) (by decide +kernel))) (h2 0 (by omega)), fun j => ([[118, 111, 108]].getD 0 []).getD j 0, h3.1, h3.2.1, h3.2.2.1, h3.2.2.2, (by decide)⟩
set_option maxHeartbeats 4000000 in
set_option maxRecDepth 100000 in
theorem so_24 {s : State} {b : Nat} (hts : ∀ w ∈ lw_tbl, w.before #[Value.ref b] s = true) (hgv : (Jvm.Cond.and given_1 narrow_1).before #[Value.ref b] s = true) {A : Nat → Prop} (hA : ∀ a : Nat, a < s.heap.size → ¬ A a) : ∃ a v : Nat, vk_R RX7 388 "back" a s ∧ sO A s s.heap a v 4 [98, 97, 99, 107] := by
  have hs := flat_of_before _ hgv
  have e0 : (Cond.eq (.elem (.field (.string RX7 388) "java/lang/String" "value" "[B") (.int (Int32.ofNat 0))) (.int (([[98, 97, 99, 107]].getD 0 []).getD 0 0))).before #[Value.ref b] s = true := hs _ (by decide +kernel)
  have e1 : (Cond.eq (.elem (.field (.string RX7 388) "java/lang/String" "value" "[B") (.int (Int32.ofNat 1))) (.int (([[98, 97, 99, 107]].getD 0 []).getD 1 0))).before #[Value.ref b] s = true := hs _ (by decide +kernel)
  have e2 : (Cond.eq (.elem (.field (.string RX7 388) "java/lang/String" "value" "[B") (.int (Int32.ofNat 2))) (.int (([[98, 97, 99, 107]].getD 0 []).getD 2 0))).before #[Value.ref b] s = true := hs _ (by decide +kernel)
  have e3 : (Cond.eq (.elem (.field (.string RX7 388) "java/lang/String" "value" "[B") (.int (Int32.ofNat 3))) (.int (([[98, 97, 99, 107]].getD 0 []).getD 3 0))).before #[Value.ref b] s = true := hs _ (by decide +kernel)
  have hex : (Cond.exactly (.string RX7 388) "java/lang/String").before #[Value.ref b] s = true := hs _ (by decide +kernel)
  have hco : (Cond.eq (.field (.string RX7 388) "java/lang/String" "coder" "B") (.int 0)).before #[Value.ref b] s = true := hs _ (by decide +kernel)
  have har : (Cond.arrayOf (.field (.string RX7 388) "java/lang/String" "value" "[B") .byte).before #[Value.ref b] s = true := hs _ (by decide +kernel)
  have hle : (Cond.eq (.length (.field (.string RX7 388) "java/lang/String" "value" "[B")) (.int (Int32.ofNat ([4].getD 0 0)))).before #[Value.ref b] s = true := hs _ (by decide +kernel)
  have z0 : ∀ i : Nat, i < 1 → i = 0 := fun i h => by omega
  obtain ⟨adK, adV, h1, h2⟩ := vk_Sof (args := #[Value.ref b]) (s := s) (N := 1) (tm := fun _ => (.string RX7 388)) (len := [4]) (byt := [[98, 97, 99, 107]]) (A := A) (fun i h => by rw [z0 i h]; decide) (fun _ _ => hex) (fun _ _ => hco) (fun _ _ => har) (fun i h => by rw [z0 i h]; exact hle) (fun i h j hj => by
    rw [z0 i h] at hj ⊢
    have hj : j < 4 := hj
    rcases (by omega : j = 0 ∨ j = 1 ∨ j = 2 ∨ j = 3) with q | q | q | q
    · rw [q]; exact e0
    · rw [q]; exact e1
    · rw [q]; exact e2
    · rw [q]; exact e3
    ) (fun i j hi hj hne => absurd ((z0 i hi).trans (z0 j hj).symm) hne) hA
  have h3 := h1.1 0 (by omega)
  exact ⟨adK 0, adV 0, vk_R.of (hts (.stringRef RX7 388 "back") (List.mem_of_getElem? (i := 1785) (by decide +kernel))) (h2 0 (by omega)), fun j => ([[98, 97, 99, 107]].getD 0 []).getD j 0, h3.1, h3.2.1, h3.2.2.1, h3.2.2.2, (by decide)⟩
set_option maxHeartbeats 4000000 in
set_option maxRecDepth 100000 in
theorem so_25 {s : State} {b : Nat} (hts : ∀ w ∈ lw_tbl, w.before #[Value.ref b] s = true) (hgv : (Jvm.Cond.and given_1 narrow_1).before #[Value.ref b] s = true) {A : Nat → Prop} (hA : ∀ a : Nat, a < s.heap.size → ¬ A a) : ∃ a v : Nat, vk_R RX7 401 "store" a s ∧ sO A s s.heap a v 5 [115, 116, 111, 114, 101] := by
  have hs := flat_of_before _ hgv
  have e0 : (Cond.eq (.elem (.field (.string RX7 401) "java/lang/String" "value" "[B") (.int (Int32.ofNat 0))) (.int (([[115, 116, 111, 114, 101]].getD 0 []).getD 0 0))).before #[Value.ref b] s = true := hs _ (by decide +kernel)
  have e1 : (Cond.eq (.elem (.field (.string RX7 401) "java/lang/String" "value" "[B") (.int (Int32.ofNat 1))) (.int (([[115, 116, 111, 114, 101]].getD 0 []).getD 1 0))).before #[Value.ref b] s = true := hs _ (by decide +kernel)
  have e2 : (Cond.eq (.elem (.field (.string RX7 401) "java/lang/String" "value" "[B") (.int (Int32.ofNat 2))) (.int (([[115, 116, 111, 114, 101]].getD 0 []).getD 2 0))).before #[Value.ref b] s = true := hs _ (by decide +kernel)
  have e3 : (Cond.eq (.elem (.field (.string RX7 401) "java/lang/String" "value" "[B") (.int (Int32.ofNat 3))) (.int (([[115, 116, 111, 114, 101]].getD 0 []).getD 3 0))).before #[Value.ref b] s = true := hs _ (by decide +kernel)
  have e4 : (Cond.eq (.elem (.field (.string RX7 401) "java/lang/String" "value" "[B") (.int (Int32.ofNat 4))) (.int (([[115, 116, 111, 114, 101]].getD 0 []).getD 4 0))).before #[Value.ref b] s = true := hs _ (by decide +kernel)
  have hex : (Cond.exactly (.string RX7 401) "java/lang/String").before #[Value.ref b] s = true := hs _ (by decide +kernel)
  have hco : (Cond.eq (.field (.string RX7 401) "java/lang/String" "coder" "B") (.int 0)).before #[Value.ref b] s = true := hs _ (by decide +kernel)
  have har : (Cond.arrayOf (.field (.string RX7 401) "java/lang/String" "value" "[B") .byte).before #[Value.ref b] s = true := hs _ (by decide +kernel)
  have hle : (Cond.eq (.length (.field (.string RX7 401) "java/lang/String" "value" "[B")) (.int (Int32.ofNat ([5].getD 0 0)))).before #[Value.ref b] s = true := hs _ (by decide +kernel)
  have z0 : ∀ i : Nat, i < 1 → i = 0 := fun i h => by omega
  obtain ⟨adK, adV, h1, h2⟩ := vk_Sof (args := #[Value.ref b]) (s := s) (N := 1) (tm := fun _ => (.string RX7 401)) (len := [5]) (byt := [[115, 116, 111, 114, 101]]) (A := A) (fun i h => by rw [z0 i h]; decide) (fun _ _ => hex) (fun _ _ => hco) (fun _ _ => har) (fun i h => by rw [z0 i h]; exact hle) (fun i h j hj => by
    rw [z0 i h] at hj ⊢
    have hj : j < 5 := hj
    rcases (by omega : j = 0 ∨ j = 1 ∨ j = 2 ∨ j = 3 ∨ j = 4) with q | q | q | q | q
    · rw [q]; exact e0
    · rw [q]; exact e1
    · rw [q]; exact e2
    · rw [q]; exact e3
    · rw [q]; exact e4
    ) (fun i j hi hj hne => absurd ((z0 i hi).trans (z0 j hj).symm) hne) hA
  have h3 := h1.1 0 (by omega)
  exact ⟨adK 0, adV 0, vk_R.of (hts (.stringRef RX7 401 "store") (List.mem_of_getElem? (i := 1786) (by decide +kernel))) (h2 0 (by omega)), fun j => ([[115, 116, 111, 114, 101]].getD 0 []).getD j 0, h3.1, h3.2.1, h3.2.2.1, h3.2.2.2, (by decide)⟩
set_option maxHeartbeats 4000000 in
set_option maxRecDepth 100000 in
theorem so_26 {s : State} {b : Nat} (hts : ∀ w ∈ lw_tbl, w.before #[Value.ref b] s = true) (hgv : (Jvm.Cond.and given_1 narrow_1).before #[Value.ref b] s = true) {A : Nat → Prop} (hA : ∀ a : Nat, a < s.heap.size → ¬ A a) : ∃ a v : Nat, vk_R RX7 415 "wet" a s ∧ sO A s s.heap a v 3 [119, 101, 116] := by
  have hs := flat_of_before _ hgv
  have e0 : (Cond.eq (.elem (.field (.string RX7 415) "java/lang/String" "value" "[B") (.int (Int32.ofNat 0))) (.int (([[119, 101, 116]].getD 0 []).getD 0 0))).before #[Value.ref b] s = true := hs _ (by decide +kernel)
  have e1 : (Cond.eq (.elem (.field (.string RX7 415) "java/lang/String" "value" "[B") (.int (Int32.ofNat 1))) (.int (([[119, 101, 116]].getD 0 []).getD 1 0))).before #[Value.ref b] s = true := hs _ (by decide +kernel)
  have e2 : (Cond.eq (.elem (.field (.string RX7 415) "java/lang/String" "value" "[B") (.int (Int32.ofNat 2))) (.int (([[119, 101, 116]].getD 0 []).getD 2 0))).before #[Value.ref b] s = true := hs _ (by decide +kernel)
  have hex : (Cond.exactly (.string RX7 415) "java/lang/String").before #[Value.ref b] s = true := hs _ (by decide +kernel)
  have hco : (Cond.eq (.field (.string RX7 415) "java/lang/String" "coder" "B") (.int 0)).before #[Value.ref b] s = true := hs _ (by decide +kernel)
  have har : (Cond.arrayOf (.field (.string RX7 415) "java/lang/String" "value" "[B") .byte).before #[Value.ref b] s = true := hs _ (by decide +kernel)
  have hle : (Cond.eq (.length (.field (.string RX7 415) "java/lang/String" "value" "[B")) (.int (Int32.ofNat ([3].getD 0 0)))).before #[Value.ref b] s = true := hs _ (by decide +kernel)
  have z0 : ∀ i : Nat, i < 1 → i = 0 := fun i h => by omega
  obtain ⟨adK, adV, h1, h2⟩ := vk_Sof (args := #[Value.ref b]) (s := s) (N := 1) (tm := fun _ => (.string RX7 415)) (len := [3]) (byt := [[119, 101, 116]]) (A := A) (fun i h => by rw [z0 i h]; decide) (fun _ _ => hex) (fun _ _ => hco) (fun _ _ => har) (fun i h => by rw [z0 i h]; exact hle) (fun i h j hj => by
    rw [z0 i h] at hj ⊢
    have hj : j < 3 := hj
    rcases (by omega : j = 0 ∨ j = 1 ∨ j = 2) with q | q | q
    · rw [q]; exact e0
    · rw [q]; exact e1
    · rw [q]; exact e2
    ) (fun i j hi hj hne => absurd ((z0 i hi).trans (z0 j hj).symm) hne) hA
  have h3 := h1.1 0 (by omega)
  exact ⟨adK 0, adV 0, vk_R.of (hts (.stringRef RX7 415 "wet") (List.mem_of_getElem? (i := 1791) (by decide +kernel))) (h2 0 (by omega)), fun j => ([[119, 101, 116]].getD 0 []).getD j 0, h3.1, h3.2.1, h3.2.2.1, h3.2.2.2, (by decide)⟩
set_option maxHeartbeats 4000000 in
set_option maxRecDepth 100000 in
theorem so_27 {s : State} {b : Nat} (hts : ∀ w ∈ lw_tbl, w.before #[Value.ref b] s = true) (hgv : (Jvm.Cond.and given_1 narrow_1).before #[Value.ref b] s = true) {A : Nat → Prop} (hA : ∀ a : Nat, a < s.heap.size → ¬ A a) : ∃ a v : Nat, vk_R RX7 445 " mouth" a s ∧ sO A s s.heap a v 6 [32, 109, 111, 117, 116, 104] := by
  have hs := flat_of_before _ hgv
  have e0 : (Cond.eq (.elem (.field (.string RX7 445) "java/lang/String" "value" "[B") (.int (Int32.ofNat 0))) (.int (([[32, 109, 111, 117, 116, 104]].getD 0 []).getD 0 0))).before #[Value.ref b] s = true := hs _ (by decide +kernel)
  have e1 : (Cond.eq (.elem (.field (.string RX7 445) "java/lang/String" "value" "[B") (.int (Int32.ofNat 1))) (.int (([[32, 109, 111, 117, 116, 104]].getD 0 []).getD 1 0))).before #[Value.ref b] s = true := hs _ (by decide +kernel)
  have e2 : (Cond.eq (.elem (.field (.string RX7 445) "java/lang/String" "value" "[B") (.int (Int32.ofNat 2))) (.int (([[32, 109, 111, 117, 116, 104]].getD 0 []).getD 2 0))).before #[Value.ref b] s = true := hs _ (by decide +kernel)
  have e3 : (Cond.eq (.elem (.field (.string RX7 445) "java/lang/String" "value" "[B") (.int (Int32.ofNat 3))) (.int (([[32, 109, 111, 117, 116, 104]].getD 0 []).getD 3 0))).before #[Value.ref b] s = true := hs _ (by decide +kernel)
  have e4 : (Cond.eq (.elem (.field (.string RX7 445) "java/lang/String" "value" "[B") (.int (Int32.ofNat 4))) (.int (([[32, 109, 111, 117, 116, 104]].getD 0 []).getD 4 0))).before #[Value.ref b] s = true := hs _ (by decide +kernel)
  have e5 : (Cond.eq (.elem (.field (.string RX7 445) "java/lang/String" "value" "[B") (.int (Int32.ofNat 5))) (.int (([[32, 109, 111, 117, 116, 104]].getD 0 []).getD 5 0))).before #[Value.ref b] s = true := hs _ (by decide +kernel)
  have hex : (Cond.exactly (.string RX7 445) "java/lang/String").before #[Value.ref b] s = true := hs _ (by decide +kernel)
  have hco : (Cond.eq (.field (.string RX7 445) "java/lang/String" "coder" "B") (.int 0)).before #[Value.ref b] s = true := hs _ (by decide +kernel)
  have har : (Cond.arrayOf (.field (.string RX7 445) "java/lang/String" "value" "[B") .byte).before #[Value.ref b] s = true := hs _ (by decide +kernel)
  have hle : (Cond.eq (.length (.field (.string RX7 445) "java/lang/String" "value" "[B")) (.int (Int32.ofNat ([6].getD 0 0)))).before #[Value.ref b] s = true := hs _ (by decide +kernel)
  have z0 : ∀ i : Nat, i < 1 → i = 0 := fun i h => by omega
  obtain ⟨adK, adV, h1, h2⟩ := vk_Sof (args := #[Value.ref b]) (s := s) (N := 1) (tm := fun _ => (.string RX7 445)) (len := [6]) (byt := [[32, 109, 111, 117, 116, 104]]) (A := A) (fun i h => by rw [z0 i h]; decide) (fun _ _ => hex) (fun _ _ => hco) (fun _ _ => har) (fun i h => by rw [z0 i h]; exact hle) (fun i h j hj => by
    rw [z0 i h] at hj ⊢
    have hj : j < 6 := hj
    rcases (by omega : j = 0 ∨ j = 1 ∨ j = 2 ∨ j = 3 ∨ j = 4 ∨ j = 5) with q | q | q | q | q | q
    · rw [q]; exact e0
    · rw [q]; exact e1
    · rw [q]; exact e2
    · rw [q]; exact e3
    · rw [q]; exact e4
    · rw [q]; exact e5
    ) (fun i j hi hj hne => absurd ((z0 i hi).trans (z0 j hj).symm) hne) hA
  have h3 := h1.1 0 (by omega)
  exact ⟨adK 0, adV 0, vk_R.of (hts (.stringRef RX7 445 " mouth") (List.mem_of_getElem? (i := 1816) (by decide +kernel))) (h2 0 (by omega)), fun j => ([[32, 109, 111, 117, 116, 104]].getD 0 []).getD j 0, h3.1, h3.2.1, h3.2.2.1, h3.2.2.2, (by decide)⟩
set_option maxHeartbeats 4000000 in
set_option maxRecDepth 100000 in
theorem so_28 {s : State} {b : Nat} (hts : ∀ w ∈ lw_tbl, w.before #[Value.ref b] s = true) (hgv : (Jvm.Cond.and given_1 narrow_1).before #[Value.ref b] s = true) {A : Nat → Prop} (hA : ∀ a : Nat, a < s.heap.size → ¬ A a) : ∃ a v : Nat, vk_R RX7 450 " sink" a s ∧ sO A s s.heap a v 5 [32, 115, 105, 110, 107] := by
  have hs := flat_of_before _ hgv
  have e0 : (Cond.eq (.elem (.field (.string RX7 450) "java/lang/String" "value" "[B") (.int (Int32.ofNat 0))) (.int (([[32, 115, 105, 110, 107]].getD 0 []).getD 0 0))).before #[Value.ref b] s = true := hs _ (by decide +kernel)
  have e1 : (Cond.eq (.elem (.field (.string RX7 450) "java/lang/String" "value" "[B") (.int (Int32.ofNat 1))) (.int (([[32, 115, 105, 110, 107]].getD 0 []).getD 1 0))).before #[Value.ref b] s = true := hs _ (by decide +kernel)
  have e2 : (Cond.eq (.elem (.field (.string RX7 450) "java/lang/String" "value" "[B") (.int (Int32.ofNat 2))) (.int (([[32, 115, 105, 110, 107]].getD 0 []).getD 2 0))).before #[Value.ref b] s = true := hs _ (by decide +kernel)
  have e3 : (Cond.eq (.elem (.field (.string RX7 450) "java/lang/String" "value" "[B") (.int (Int32.ofNat 3))) (.int (([[32, 115, 105, 110, 107]].getD 0 []).getD 3 0))).before #[Value.ref b] s = true := hs _ (by decide +kernel)
  have e4 : (Cond.eq (.elem (.field (.string RX7 450) "java/lang/String" "value" "[B") (.int (Int32.ofNat 4))) (.int (([[32, 115, 105, 110, 107]].getD 0 []).getD 4 0))).before #[Value.ref b] s = true := hs _ (by decide +kernel)
  have hex : (Cond.exactly (.string RX7 450) "java/lang/String").before #[Value.ref b] s = true := hs _ (by decide +kernel)
  have hco : (Cond.eq (.field (.string RX7 450) "java/lang/String" "coder" "B") (.int 0)).before #[Value.ref b] s = true := hs _ (by decide +kernel)
  have har : (Cond.arrayOf (.field (.string RX7 450) "java/lang/String" "value" "[B") .byte).before #[Value.ref b] s = true := hs _ (by decide +kernel)
  have hle : (Cond.eq (.length (.field (.string RX7 450) "java/lang/String" "value" "[B")) (.int (Int32.ofNat ([5].getD 0 0)))).before #[Value.ref b] s = true := hs _ (by decide +kernel)
  have z0 : ∀ i : Nat, i < 1 → i = 0 := fun i h => by omega
  obtain ⟨adK, adV, h1, h2⟩ := vk_Sof (args := #[Value.ref b]) (s := s) (N := 1) (tm := fun _ => (.string RX7 450)) (len := [5]) (byt := [[32, 115, 105, 110, 107]]) (A := A) (fun i h => by rw [z0 i h]; decide) (fun _ _ => hex) (fun _ _ => hco) (fun _ _ => har) (fun i h => by rw [z0 i h]; exact hle) (fun i h j hj => by
    rw [z0 i h] at hj ⊢
    have hj : j < 5 := hj
    rcases (by omega : j = 0 ∨ j = 1 ∨ j = 2 ∨ j = 3 ∨ j = 4) with q | q | q | q | q
    · rw [q]; exact e0
    · rw [q]; exact e1
    · rw [q]; exact e2
    · rw [q]; exact e3
    · rw [q]; exact e4
    ) (fun i j hi hj hne => absurd ((z0 i hi).trans (z0 j hj).symm) hne) hA
  have h3 := h1.1 0 (by omega)
  exact ⟨adK 0, adV 0, vk_R.of (hts (.stringRef RX7 450 " sink") (List.mem_of_getElem? (i := 1821) (by decide +kernel))) (h2 0 (by omega)), fun j => ([[32, 115, 105, 110, 107]].getD 0 []).getD j 0, h3.1, h3.2.1, h3.2.2.1, h3.2.2.2, (by decide)⟩
set_option maxHeartbeats 4000000 in
set_option maxRecDepth 100000 in
theorem so_29 {s : State} {b : Nat} (hts : ∀ w ∈ lw_tbl, w.before #[Value.ref b] s = true) (hgv : (Jvm.Cond.and given_1 narrow_1).before #[Value.ref b] s = true) {A : Nat → Prop} (hA : ∀ a : Nat, a < s.heap.size → ¬ A a) : ∃ a v : Nat, vk_R RX7 452 " age" a s ∧ sO A s s.heap a v 4 [32, 97, 103, 101] := by
  have hs := flat_of_before _ hgv
  have e0 : (Cond.eq (.elem (.field (.string RX7 452) "java/lang/String" "value" "[B") (.int (Int32.ofNat 0))) (.int (([[32, 97, 103, 101]].getD 0 []).getD 0 0))).before #[Value.ref b] s = true := hs _ (by decide +kernel)
  have e1 : (Cond.eq (.elem (.field (.string RX7 452) "java/lang/String" "value" "[B") (.int (Int32.ofNat 1))) (.int (([[32, 97, 103, 101]].getD 0 []).getD 1 0))).before #[Value.ref b] s = true := hs _ (by decide +kernel)
  have e2 : (Cond.eq (.elem (.field (.string RX7 452) "java/lang/String" "value" "[B") (.int (Int32.ofNat 2))) (.int (([[32, 97, 103, 101]].getD 0 []).getD 2 0))).before #[Value.ref b] s = true := hs _ (by decide +kernel)
  have e3 : (Cond.eq (.elem (.field (.string RX7 452) "java/lang/String" "value" "[B") (.int (Int32.ofNat 3))) (.int (([[32, 97, 103, 101]].getD 0 []).getD 3 0))).before #[Value.ref b] s = true := hs _ (by decide +kernel)
  have hex : (Cond.exactly (.string RX7 452) "java/lang/String").before #[Value.ref b] s = true := hs _ (by decide +kernel)
  have hco : (Cond.eq (.field (.string RX7 452) "java/lang/String" "coder" "B") (.int 0)).before #[Value.ref b] s = true := hs _ (by decide +kernel)
  have har : (Cond.arrayOf (.field (.string RX7 452) "java/lang/String" "value" "[B") .byte).before #[Value.ref b] s = true := hs _ (by decide +kernel)
  have hle : (Cond.eq (.length (.field (.string RX7 452) "java/lang/String" "value" "[B")) (.int (Int32.ofNat ([4].getD 0 0)))).before #[Value.ref b] s = true := hs _ (by decide +kernel)
  have z0 : ∀ i : Nat, i < 1 → i = 0 := fun i h => by omega
  obtain ⟨adK, adV, h1, h2⟩ := vk_Sof (args := #[Value.ref b]) (s := s) (N := 1) (tm := fun _ => (.string RX7 452)) (len := [4]) (byt := [[32, 97, 103, 101]]) (A := A) (fun i h => by rw [z0 i h]; decide) (fun _ _ => hex) (fun _ _ => hco) (fun _ _ => har) (fun i h => by rw [z0 i h]; exact hle) (fun i h j hj => by
    rw [z0 i h] at hj ⊢
    have hj : j < 4 := hj
    rcases (by omega : j = 0 ∨ j = 1 ∨ j = 2 ∨ j = 3) with q | q | q | q
    · rw [q]; exact e0
    · rw [q]; exact e1
    · rw [q]; exact e2
    · rw [q]; exact e3
    ) (fun i j hi hj hne => absurd ((z0 i hi).trans (z0 j hj).symm) hne) hA
  have h3 := h1.1 0 (by omega)
  exact ⟨adK 0, adV 0, vk_R.of (hts (.stringRef RX7 452 " age") (List.mem_of_getElem? (i := 1826) (by decide +kernel))) (h2 0 (by omega)), fun j => ([[32, 97, 103, 101]].getD 0 []).getD j 0, h3.1, h3.2.1, h3.2.2.1, h3.2.2.2, (by decide)⟩
set_option maxHeartbeats 4000000 in
set_option maxRecDepth 100000 in
theorem so_30 {s : State} {b : Nat} (hts : ∀ w ∈ lw_tbl, w.before #[Value.ref b] s = true) (hgv : (Jvm.Cond.and given_1 narrow_1).before #[Value.ref b] s = true) {A : Nat → Prop} (hA : ∀ a : Nat, a < s.heap.size → ¬ A a) : ∃ a v : Nat, vk_R RX7 454 " vol" a s ∧ sO A s s.heap a v 4 [32, 118, 111, 108] := by
  have hs := flat_of_before _ hgv
  have e0 : (Cond.eq (.elem (.field (.string RX7 454) "java/lang/String" "value" "[B") (.int (Int32.ofNat 0))) (.int (([[32, 118, 111, 108]].getD 0 []).getD 0 0))).before #[Value.ref b] s = true := hs _ (by decide +kernel)
  have e1 : (Cond.eq (.elem (.field (.string RX7 454) "java/lang/String" "value" "[B") (.int (Int32.ofNat 1))) (.int (([[32, 118, 111, 108]].getD 0 []).getD 1 0))).before #[Value.ref b] s = true := hs _ (by decide +kernel)
  have e2 : (Cond.eq (.elem (.field (.string RX7 454) "java/lang/String" "value" "[B") (.int (Int32.ofNat 2))) (.int (([[32, 118, 111, 108]].getD 0 []).getD 2 0))).before #[Value.ref b] s = true := hs _ (by decide +kernel)
  have e3 : (Cond.eq (.elem (.field (.string RX7 454) "java/lang/String" "value" "[B") (.int (Int32.ofNat 3))) (.int (([[32, 118, 111, 108]].getD 0 []).getD 3 0))).before #[Value.ref b] s = true := hs _ (by decide +kernel)
  have hex : (Cond.exactly (.string RX7 454) "java/lang/String").before #[Value.ref b] s = true := hs _ (by decide +kernel)
  have hco : (Cond.eq (.field (.string RX7 454) "java/lang/String" "coder" "B") (.int 0)).before #[Value.ref b] s = true := hs _ (by decide +kernel)
  have har : (Cond.arrayOf (.field (.string RX7 454) "java/lang/String" "value" "[B") .byte).before #[Value.ref b] s = true := hs _ (by decide +kernel)
  have hle : (Cond.eq (.length (.field (.string RX7 454) "java/lang/String" "value" "[B")) (.int (Int32.ofNat ([4].getD 0 0)))).before #[Value.ref b] s = true := hs _ (by decide +kernel)
  have z0 : ∀ i : Nat, i < 1 → i = 0 := fun i h => by omega
  obtain ⟨adK, adV, h1, h2⟩ := vk_Sof (args := #[Value.ref b]) (s := s) (N := 1) (tm := fun _ => (.string RX7 454)) (len := [4]) (byt := [[32, 118, 111, 108]]) (A := A) (fun i h => by rw [z0 i h]; decide) (fun _ _ => hex) (fun _ _ => hco) (fun _ _ => har) (fun i h => by rw [z0 i h]; exact hle) (fun i h j hj => by
    rw [z0 i h] at hj ⊢
    have hj : j < 4 := hj
    rcases (by omega : j = 0 ∨ j = 1 ∨ j = 2 ∨ j = 3) with q | q | q | q
    · rw [q]; exact e0
    · rw [q]; exact e1
    · rw [q]; exact e2
    · rw [q]; exact e3
    ) (fun i j hi hj hne => absurd ((z0 i hi).trans (z0 j hj).symm) hne) hA
  have h3 := h1.1 0 (by omega)
  exact ⟨adK 0, adV 0, vk_R.of (hts (.stringRef RX7 454 " vol") (List.mem_of_getElem? (i := 1827) (by decide +kernel))) (h2 0 (by omega)), fun j => ([[32, 118, 111, 108]].getD 0 []).getD j 0, h3.1, h3.2.1, h3.2.2.1, h3.2.2.2, (by decide)⟩
set_option maxHeartbeats 4000000 in
set_option maxRecDepth 100000 in
theorem so_31 {s : State} {b : Nat} (hts : ∀ w ∈ lw_tbl, w.before #[Value.ref b] s = true) (hgv : (Jvm.Cond.and given_1 narrow_1).before #[Value.ref b] s = true) {A : Nat → Prop} (hA : ∀ a : Nat, a < s.heap.size → ¬ A a) : ∃ a v : Nat, vk_R RX7 456 " back" a s ∧ sO A s s.heap a v 5 [32, 98, 97, 99, 107] := by
  have hs := flat_of_before _ hgv
  have e0 : (Cond.eq (.elem (.field (.string RX7 456) "java/lang/String" "value" "[B") (.int (Int32.ofNat 0))) (.int (([[32, 98, 97, 99, 107]].getD 0 []).getD 0 0))).before #[Value.ref b] s = true := hs _ (by decide +kernel)
  have e1 : (Cond.eq (.elem (.field (.string RX7 456) "java/lang/String" "value" "[B") (.int (Int32.ofNat 1))) (.int (([[32, 98, 97, 99, 107]].getD 0 []).getD 1 0))).before #[Value.ref b] s = true := hs _ (by decide +kernel)
  have e2 : (Cond.eq (.elem (.field (.string RX7 456) "java/lang/String" "value" "[B") (.int (Int32.ofNat 2))) (.int (([[32, 98, 97, 99, 107]].getD 0 []).getD 2 0))).before #[Value.ref b] s = true := hs _ (by decide +kernel)
  have e3 : (Cond.eq (.elem (.field (.string RX7 456) "java/lang/String" "value" "[B") (.int (Int32.ofNat 3))) (.int (([[32, 98, 97, 99, 107]].getD 0 []).getD 3 0))).before #[Value.ref b] s = true := hs _ (by decide +kernel)
  have e4 : (Cond.eq (.elem (.field (.string RX7 456) "java/lang/String" "value" "[B") (.int (Int32.ofNat 4))) (.int (([[32, 98, 97, 99, 107]].getD 0 []).getD 4 0))).before #[Value.ref b] s = true := hs _ (by decide +kernel)
  have hex : (Cond.exactly (.string RX7 456) "java/lang/String").before #[Value.ref b] s = true := hs _ (by decide +kernel)
  have hco : (Cond.eq (.field (.string RX7 456) "java/lang/String" "coder" "B") (.int 0)).before #[Value.ref b] s = true := hs _ (by decide +kernel)
  have har : (Cond.arrayOf (.field (.string RX7 456) "java/lang/String" "value" "[B") .byte).before #[Value.ref b] s = true := hs _ (by decide +kernel)
  have hle : (Cond.eq (.length (.field (.string RX7 456) "java/lang/String" "value" "[B")) (.int (Int32.ofNat ([5].getD 0 0)))).before #[Value.ref b] s = true := hs _ (by decide +kernel)
  have z0 : ∀ i : Nat, i < 1 → i = 0 := fun i h => by omega
  obtain ⟨adK, adV, h1, h2⟩ := vk_Sof (args := #[Value.ref b]) (s := s) (N := 1) (tm := fun _ => (.string RX7 456)) (len := [5]) (byt := [[32, 98, 97, 99, 107]]) (A := A) (fun i h => by rw [z0 i h]; decide) (fun _ _ => hex) (fun _ _ => hco) (fun _ _ => har) (fun i h => by rw [z0 i h]; exact hle) (fun i h j hj => by
    rw [z0 i h] at hj ⊢
    have hj : j < 5 := hj
    rcases (by omega : j = 0 ∨ j = 1 ∨ j = 2 ∨ j = 3 ∨ j = 4) with q | q | q | q | q
    · rw [q]; exact e0
    · rw [q]; exact e1
    · rw [q]; exact e2
    · rw [q]; exact e3
    · rw [q]; exact e4
    ) (fun i j hi hj hne => absurd ((z0 i hi).trans (z0 j hj).symm) hne) hA
  have h3 := h1.1 0 (by omega)
  exact ⟨adK 0, adV 0, vk_R.of (hts (.stringRef RX7 456 " back") (List.mem_of_getElem? (i := 1828) (by decide +kernel))) (h2 0 (by omega)), fun j => ([[32, 98, 97, 99, 107]].getD 0 []).getD j 0, h3.1, h3.2.1, h3.2.2.1, h3.2.2.2, (by decide)⟩
set_option maxHeartbeats 4000000 in
set_option maxRecDepth 100000 in
theorem law_SO {s : State} {b : Nat} (hts : ∀ w ∈ lw_tbl, w.before #[Value.ref b] s = true) (hgv : (Jvm.Cond.and given_1 narrow_1).before #[Value.ref b] s = true) : ∃ aX aV : Nat → Nat, ∀ E : Ev, eX E = aX → eV E = aV → (∀ q, eT E q < eN E → s.heap.size ≤ q) → SO E s.heap.size s := by
  have hA : ∀ a : Nat, a < s.heap.size → ¬ (fun q : Nat => s.heap.size ≤ q) a := fun a h q => absurd h (Nat.not_lt.mpr q)
  have hs := flat_of_before _ hgv
  obtain ⟨a0, v0, r0, o0⟩ := so_0 hts hgv hA
  obtain ⟨a1, v1, r1, o1⟩ := so_1 hts hgv hA
  obtain ⟨a2, v2, r2, o2⟩ := so_2 hts hgv hA
  obtain ⟨a3, v3, r3, o3⟩ := so_3 hts hgv hA
  obtain ⟨a4, v4, r4, o4⟩ := so_4 hts hgv hA
  obtain ⟨a5, v5, r5, o5⟩ := so_5 hts hgv hA
  obtain ⟨a6, v6, r6, o6⟩ := so_6 hts hgv hA
  obtain ⟨a7, v7, r7, o7⟩ := so_7 hts hgv hA
  obtain ⟨a8, v8, r8, o8⟩ := so_8 hts hgv hA
  obtain ⟨a9, v9, r9, o9⟩ := so_9 hts hgv hA
  obtain ⟨a10, v10, r10, o10⟩ := so_10 hts hgv hA
  obtain ⟨a11, v11, r11, o11⟩ := so_11 hts hgv hA
  obtain ⟨a12, v12, r12, o12⟩ := so_12 hts hgv hA
  obtain ⟨a13, v13, r13, o13⟩ := so_13 hts hgv hA
  obtain ⟨a14, v14, r14, o14⟩ := so_14 hts hgv hA
  obtain ⟨a15, v15, r15, o15⟩ := so_15 hts hgv hA
  obtain ⟨a16, v16, r16, o16⟩ := so_16 hts hgv hA
  obtain ⟨a17, v17, r17, o17⟩ := so_17 hts hgv hA
  obtain ⟨a18, v18, r18, o18⟩ := so_18 hts hgv hA
  obtain ⟨a19, v19, r19, o19⟩ := so_19 hts hgv hA
  obtain ⟨a20, v20, r20, o20⟩ := so_20 hts hgv hA
  obtain ⟨a21, v21, r21, o21⟩ := so_21 hts hgv hA
  obtain ⟨a22, v22, r22, o22⟩ := so_22 hts hgv hA
  obtain ⟨a23, v23, r23, o23⟩ := so_23 hts hgv hA
  obtain ⟨a24, v24, r24, o24⟩ := so_24 hts hgv hA
  obtain ⟨a25, v25, r25, o25⟩ := so_25 hts hgv hA
  obtain ⟨a26, v26, r26, o26⟩ := so_26 hts hgv hA
  obtain ⟨a27, v27, r27, o27⟩ := so_27 hts hgv hA
  obtain ⟨a28, v28, r28, o28⟩ := so_28 hts hgv hA
  obtain ⟨a29, v29, r29, o29⟩ := so_29 hts hgv hA
  obtain ⟨a30, v30, r30, o30⟩ := so_30 hts hgv hA
  obtain ⟨a31, v31, r31, o31⟩ := so_31 hts hgv hA
  have hz : va_Z "java/lang/String" "COMPACT_STRINGS" "Z" (.int 1) (fun q : Nat => s.heap.size ≤ q) s s.heap := va_Zof (hts (.laysStatic "java/lang/String" "COMPACT_STRINGS" "Z") (List.mem_of_getElem? (i := 636) (by decide +kernel))) (hts (.initialized "java/lang/String") (List.mem_of_getElem? (i := 132) (by decide +kernel))) (va_eqt (hs (.eq (.static "java/lang/String" "COMPACT_STRINGS" "Z") (.int 1)) (by decide +kernel))) hA
  have hq : va_Zq "jdk/internal/util/Preconditions" "SIOOBE_FORMATTER" "Ljava/util/function/BiFunction;" (fun q : Nat => s.heap.size ≤ q) s s.heap := va_Zqof (hts (.laysStatic "jdk/internal/util/Preconditions" "SIOOBE_FORMATTER" "Ljava/util/function/BiFunction;") (List.mem_of_getElem? (i := 652) (by decide +kernel))) (hts (.initialized "jdk/internal/util/Preconditions") (List.mem_of_getElem? (i := 134) (by decide +kernel))) (hs (.isRef (.static "jdk/internal/util/Preconditions" "SIOOBE_FORMATTER" "Ljava/util/function/BiFunction;")) (by decide +kernel)) hA
  refine ⟨fun i => [a0, a1, a2, a3, a4, a5, a6, a7, a8, a9, a10, a11, a12, a13, a14, a15, a16, a17, a18, a19, a20, a21, a22, a23, a24, a25, a26, a27, a28, a29, a30, a31].getD i 0, fun i => [v0, v1, v2, v3, v4, v5, v6, v7, v8, v9, v10, v11, v12, v13, v14, v15, v16, v17, v18, v19, v20, v21, v22, v23, v24, v25, v26, v27, v28, v29, v30, v31].getD i 0, fun E e1 e2 hT => ?_⟩
  have hB : ∀ q, eA E s.heap.size q → (fun q : Nat => s.heap.size ≤ q) q := fun q h => h.elim (hT q) id
  refine ⟨fun i x hx => ?_, hz.narrow hB, hq.narrow hB⟩
  rw [e1, e2]
  match i, hx with
  | 0, hx => cases hx; exact ⟨r0, o0.narrow hB⟩
  | 1, hx => cases hx; exact ⟨r1, o1.narrow hB⟩
  | 2, hx => cases hx; exact ⟨r2, o2.narrow hB⟩
  | 3, hx => cases hx; exact ⟨r3, o3.narrow hB⟩
  | 4, hx => cases hx; exact ⟨r4, o4.narrow hB⟩
  | 5, hx => cases hx; exact ⟨r5, o5.narrow hB⟩
  | 6, hx => cases hx; exact ⟨r6, o6.narrow hB⟩
  | 7, hx => cases hx; exact ⟨r7, o7.narrow hB⟩
  | 8, hx => cases hx; exact ⟨r8, o8.narrow hB⟩
  | 9, hx => cases hx; exact ⟨r9, o9.narrow hB⟩
  | 10, hx => cases hx; exact ⟨r10, o10.narrow hB⟩
  | 11, hx => cases hx; exact ⟨r11, o11.narrow hB⟩
  | 12, hx => cases hx; exact ⟨r12, o12.narrow hB⟩
  | 13, hx => cases hx; exact ⟨r13, o13.narrow hB⟩
  | 14, hx => cases hx; exact ⟨r14, o14.narrow hB⟩
  | 15, hx => cases hx; exact ⟨r15, o15.narrow hB⟩
  | 16, hx => cases hx; exact ⟨r16, o16.narrow hB⟩
  | 17, hx => cases hx; exact ⟨r17, o17.narrow hB⟩
  | 18, hx => cases hx; exact ⟨r18, o18.narrow hB⟩
  | 19, hx => cases hx; exact ⟨r19, o19.narrow hB⟩
  | 20, hx => cases hx; exact ⟨r20, o20.narrow hB⟩
  | 21, hx => cases hx; exact ⟨r21, o21.narrow hB⟩
  | 22, hx => cases hx; exact ⟨r22, o22.narrow hB⟩
  | 23, hx => cases hx; exact ⟨r23, o23.narrow hB⟩
  | 24, hx => cases hx; exact ⟨r24, o24.narrow hB⟩
  | 25, hx => cases hx; exact ⟨r25, o25.narrow hB⟩
  | 26, hx => cases hx; exact ⟨r26, o26.narrow hB⟩
  | 27, hx => cases hx; exact ⟨r27, o27.narrow hB⟩
  | 28, hx => cases hx; exact ⟨r28, o28.narrow hB⟩
  | 29, hx => cases hx; exact ⟨r29, o29.narrow hB⟩
  | 30, hx => cases hx; exact ⟨r30, o30.narrow hB⟩
  | 31, hx => cases hx; exact ⟨r31, o31.narrow hB⟩
  | i + 32, hx => simp [sitesTx] at hx
