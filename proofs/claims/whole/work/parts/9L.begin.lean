section BEG
variable {xt : mj_X} {ct : Nat → Value} {O : OR} {N z : Nat} {tx : List Int32} {H : mj_H} {wp : Int32}
/-- a reading begins: the text is copied, the parser stands at its first character -/
theorem C82_do (hN : 2000 ≤ N) (hf : ∃ o, vtO (ct 1) = some o) {v : Nat} {bs : List Value} (hv : v ≠ z + 5 ∧ v ≠ z + 6 ∧ v ≠ z + 7) (ht : txC tx) (hs : sb H (z + 2) v bs tx) (hp : pidle z H wp) : ∃ G, C82 xt ct O N (z + 5) (z + 2) H = some G ∧ pst z G tx 0 0 0 wp ∧ (∀ q, q ≠ z + 5 → q ≠ z + 6 → G.1 q = H.1 q) ∧ G.2 = H.2 := by
  have hl := ht.1
  obtain ⟨⟨a, b, c, d, h5⟩, ⟨cs, h6, hcs⟩, ⟨fc, h7, hfc⟩⟩ := hp
  obtain ⟨⟨mm, k1⟩, kk⟩ := id hs
  have e1 : (Int32.ofNat tx.length).toInt = tx.length := i_nat (by omega)
  have b21 : mj_c2 .gt (Int32.ofNat tx.length) 160 = false := i_c2 (by show decide _ = false; apply decide_eq_false; rw [show (160 : Int32).toInt = 160 from rfl]; omega)
  have c21 : C21 xt ct O N (Int32.ofNat tx.length) 160 H = some (Int32.ofNat tx.length, H) := by
    simp only [C21, J21_10, b21, cond_false]
  have u : uF H (z + 5) 1 2 (.int (Int32.ofNat tx.length)) = some (mj_put H (z + 5) (.inr (1, [.ref (z + 6), .ref (z + 7), .int (Int32.ofNat tx.length), .int b, .int c, .int d, .int wp]))) := by
    rw [uF_of h5]
    rfl
  obtain ⟨F, hF⟩ : ∃ F, mj_put H (z + 5) (.inr (1, [.ref (z + 6), .ref (z + 7), .int (Int32.ofNat tx.length), .int b, .int c, .int d, .int wp])) = F := ⟨_, rfl⟩
  have F5 : F.1 (z + 5) = some (.inr (1, [.ref (z + 6), .ref (z + 7), .int (Int32.ofNat tx.length), .int b, .int c, .int d, .int wp])) := by rw [← hF, mj_put_eq]
  have Fn : ∀ q, q ≠ z + 5 → F.1 q = H.1 q := fun q hq => by rw [← hF, mj_put_ne hq]
  have F2 : F.2 = H.2 := by rw [← hF]; rfl
  have hs' : sb F (z + 2) v bs tx := ⟨⟨mm, by rw [Fn _ (by omega)]; exact k1⟩, by rw [Fn _ hv.1]; exact kk.1, kk.2⟩
  obtain ⟨G, f1, f2, f3, f4⟩ := L82_do (xt := xt) (ct := ct) (O := O) (N := N) hf hv ht tx.length 0 F cs fc (by omega) hs' F5 (by rw [Fn _ (by omega)]; exact h6) hcs (fun j x hj => absurd hj (Nat.not_lt_zero _)) (by rw [Fn _ (by omega)]; exact h7) hfc
  refine ⟨G, ?_, f2, fun q q1 q2 => (f3 q q1 q2).trans (Fn q q1), f4.trans F2⟩
  have l : L82_16 xt ct O N (z + 5, z + 2, 0, F) = some G := t_lp_more _ _ _ (by omega) f1
  simp only [C82, gK_of k1, C10_sb hs, c21, u, hF, l, Option.bind_some]
end BEG
