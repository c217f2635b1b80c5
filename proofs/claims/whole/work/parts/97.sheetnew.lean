theorem C_sheetNew {h : zH} {b z : Nat} (hb : h b = .inr (7, [tI 0, tI 0, tA none])) : ∃ h', f_X7_init (some b) h (b + 1) z = some ((b + 2, z + 64), h') ∧ h' b = .inr (7, [tI (iI (-1)), tI (iI 0), tA (some (b + 1))]) ∧ h' (b + 1) = .inl (0, 64, .inl (fun _ => 0)) ∧ ∀ q, q ≠ b → q ≠ b + 1 → h' q = h q := by
  have p0 : z_pF h 7 0 (some b) (tI (-1 : Int32)) = some (z_up h b (.inr (7, [tI (-1), tI 0, tA none]))) := z_pF_k hb (Nat.le_of_ble_eq_true rfl)
  have a1 : z_up (z_up h b (.inr (7, [tI (-1), tI 0, tA none]))) (b + 1) (.inl (0, 64, .inl (fun _ => 0))) b = .inr (7, [tI (-1), tI 0, tA none]) := by rw [z_up_n _ _ (by omega), z_up_s]
  refine ⟨z_up (z_up (z_up h b (.inr (7, [tI (-1), tI 0, tA none]))) (b + 1) (.inl (0, 64, .inl (fun _ => 0)))) b (.inr (7, [tI (iI (-1)), tI (iI 0), tA (some (b + 1))])), ?_, z_up_s _ _ _, by rw [z_up_n _ _ (by omega), z_up_s], fun q h1 h2 => by rw [z_up_n _ _ h1, z_up_n _ _ h2, z_up_n _ _ h1]⟩
  unfold f_X7_init
  rw [Option.bind_some, p0, Option.bind_some]
  unfold f_X7_init_b14
  rw [z_pF_k a1 (Nat.le_of_ble_eq_true rfl), Option.bind_some]
  rfl
