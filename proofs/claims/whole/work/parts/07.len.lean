/-! How long an instruction is. -/
def mm_len : Instr → Nat
  | .bipush _ | .ldc _ | .iload _ | .lload _ | .aload _ | .istore _ | .lstore _ | .astore _ | .newarray _ => 2
  | .sipush _ | .ldc2_w _ | .ldc_w _ | .ifCond .. | .if_icmp .. | .goto _ | .iinc .. | .getfield _ | .putfield _ | .getstatic _ | .new _ | .anewarray _ | .invokevirtual _ | .invokespecial _ | .invokestatic _ => 3
  | .multianewarray .. => 4
  | .tableswitch .. | .lookupswitch .. => 0
  | _ => 1
